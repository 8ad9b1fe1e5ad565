/** Counts the answers that are not the ones that are due. */
final class Due {
    private int answers = 0;
    private int wrong = 0;
    private String about = "";

    /** What the answers from now on are about; told ahead of the first wrong one. */
    void about(String what) {
        about = what;
    }

    int answers() {
        return answers;
    }

    void is(String call, long got, long want) {
        answers++;
        if (got != want) {
            tell(call + " answered " + got + ", due is " + want);
        }
    }

    void is(String call, double got, double want) {
        is(call + " as bits", Double.doubleToLongBits(got), Double.doubleToLongBits(want));
    }

    void holds(String what, boolean so) {
        answers++;
        if (!so) {
            tell(what);
        }
    }

    /** The call throws just this exception, and leaves the object as it was. */
    void refuses(TestSlots x, String call, Class<?> due, Runnable body) {
        answers++;
        long before = x.digest();
        Class<?> got = null;
        try {
            body.run();
        } catch (RuntimeException e) {
            got = e.getClass();
        }
        if (got != due) {
            tell(call + " threw " + got + ", due is " + due);
        }
        is("digest behind " + call, x.digest(), before);
    }

    void tell(String what) {
        wrong++;
        if (wrong > 50) {
            return;
        }
        if (!about.isEmpty()) {
            System.out.println(about);
            about = "";
        }
        System.out.println("  " + what);
    }

    void end() {
        System.out.println(answers + " answers looked at, " + wrong + " not as due");
        if (wrong != 0 || answers == 0) {
            System.exit(1);
        }
    }
}
