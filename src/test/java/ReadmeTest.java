import java.io.IOException;
import java.nio.file.Files;
import java.nio.file.Path;

/** What README.md tells about the use of the class is so, and its example stands there as it is here. */
public final class ReadmeTest {
    private static final Due due = new Due();

    public static void main(String[] args) throws IOException {
        String readme = Files.readString(Path.of("README.md"));
        example();
        for (String line : new String[] {
            "TestSlots office = new TestSlots();",
            "int examiner = office.addExaminer();     // 0",
            "int pupil = office.addPupil();           // 0",
            "int days = office.ask(pupil);            // 0:",
            "int route = office.test(pupil, false);   // 0:",
            "int from = office.pupil(pupil, 2);       // 3:",
            "office.undo();",
            "for (char c : \"pass0;next\".toCharArray()) {",
            "    office.append(c);",
            "int done = office.run();                 // 2 orders"}) {
            due.holds("README.md does not tell: " + line, readme.contains(line));
        }
        everyTestIsTold(readme);
        due.end();
    }

    private static void example() {
        TestSlots office = new TestSlots();
        int examiner = office.addExaminer();
        due.is("the examiner", examiner, 0);
        int pupil = office.addPupil();
        due.is("the pupil", pupil, 0);
        due.is("the days", office.ask(pupil), 0);
        due.is("the route", office.test(pupil, false), 0);
        due.is("the day from which on", office.pupil(pupil, 2), 3);
        office.undo();
        due.is("the test was not held", office.count(7), 0);
        for (char c : "pass0;next".toCharArray()) {
            office.append(c);
        }
        due.is("the orders carried out", office.run(), 2);
    }

    private static void everyTestIsTold(String readme) throws IOException {
        try (var files = Files.list(Path.of("src/test/java"))) {
            files.map(file -> file.getFileName().toString().replace(".java", ""))
                .filter(name -> name.endsWith("Test"))
                .forEach(name -> due.holds("README.md does not tell of " + name, readme.contains("`" + name + "`")));
        }
    }
}
