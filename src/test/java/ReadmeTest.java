import java.io.IOException;
import java.lang.reflect.Method;
import java.lang.reflect.Modifier;
import java.nio.file.DirectoryStream;
import java.nio.file.Files;
import java.nio.file.Path;
import java.util.ArrayDeque;
import java.util.ArrayList;
import java.util.Deque;
import java.util.List;

/** README.md shows the answers that the class gives, and names each call and each test. */
public final class ReadmeTest extends Checks {
    private static final String[] ANSWERS = {"LOST", "FULL", "CLOSED", "BAD", "NONE"};
    private static final Deque<String> example = new ArrayDeque<>();

    private static void readExample(List<String> readme) {
        int begin = readme.indexOf("```java") + 1;
        for (int k = begin; begin > 0 && !readme.get(k).equals("```"); k++) {
            if (!readme.get(k).isBlank()) example.add(readme.get(k));
        }
    }

    /** The next line of the example has this code, and tells this answer first behind it. */
    private static void shown(String code, String answer) {
        String line = example.isEmpty() ? "" : example.remove();
        String[] halves = line.split("//", 2);
        dueSame("the example's next line", halves[0].strip(), code);
        if (answer == null) return;
        String told = halves.length < 2 ? "" : halves[1].strip();
        dueSame("the answer of " + code, told.split(":", 2)[0], answer);
    }

    private static void shown(String code, long answer) {
        boolean isNamed = answer < 0 && answer >= -ANSWERS.length;
        shown(code, isNamed ? ANSWERS[(int) answer + ANSWERS.length] : Long.toString(answer));
    }

    private static void shown(String code, boolean answer) {
        shown(code, Boolean.toString(answer));
    }

    private static void followExample() {
        MarkLog log = new MarkLog(64);
        shown("MarkLog log = new MarkLog(64);", null);
        due("rows", log.told(1), 64);
        due("OPEN", log.told(0), 1);
        shown("log.feed(0x6F6C6C6568L, 5);", log.feed(0x6F6C6C6568L, 5));
        shown("log.part(2, 77);", log.part(2, 77));
        shown("log.mark(1);", log.mark(1));
        shown("log.keep(1);", log.keep(1));
        shown("log.owner(3);", log.owner(3));

        shown("log.cut(10);", log.cut(10));
        shown("log.owner(3);", log.owner(3));
        shown("log.usable();", log.usable());
        shown("log.open();", log.open());
        shown("log.usable();", log.usable());
        shown("log.told(12);", log.told(12));
        shown("log.badAt();", log.badAt());
        shown("log.owner(3);", log.owner(3));

        due("the PART's first byte", log.partByte(1, 0), 104);
        shown("log.poke(3, 1, 255);", log.poke(3, 1, 255));
        shown("log.whole(1);", log.whole(1));
        shown("log.badAt();", log.badAt());
        shown("log.poke(3, 1, 255);", log.poke(3, 1, 255));

        shown("log.out(1, MarkLog.NONE);", log.out(1, MarkLog.NONE));
        for (int i = 0; i < 26; i++) log.feed(log.out(1, i), 1);
        shown("for (int i = 0; i < 26; i++) log.feed(log.out(1, i), 1);", null);
        shown("log.in();", log.in());
        shown("log.equal(1, 2);", log.equal(1, 2));
        shown("log.keep(2);", log.keep(2));
        shown("log.drop(1);", log.drop(1));
        due("PART 1 is gone", log.partOf(1, 0), NONE);
        due("lines of the example that are not followed", example.size(), 0);
    }

    private static void namesEachCall(String readme) {
        for (Method method : MarkLog.class.getDeclaredMethods()) {
            if (!Modifier.isPublic(method.getModifiers())) continue;
            due("README.md names " + method.getName(), readme.contains("`" + method.getName() + "`"), true);
        }
    }

    private static void namesEachTest(List<String> readme) throws IOException {
        List<String> named = new ArrayList<>();
        for (String line : readme) {
            if (line.matches("- `\\w+Test`: .*")) named.add(line.substring(3, line.indexOf("`:")) + ".java");
        }
        List<String> there = new ArrayList<>();
        try (DirectoryStream<Path> tests = Files.newDirectoryStream(Path.of("src/test/java"))) {
            for (Path test : tests) there.add(test.getFileName().toString());
        }
        named.sort(null);
        there.sort(null);
        dueSame("the tests that README.md names", named.toString(), there.toString());
    }

    public static void main(String[] args) throws IOException {
        section("README.md");
        List<String> readme = Files.readAllLines(Path.of("README.md"));
        readExample(readme);
        followExample();
        namesEachCall(String.join("\n", readme));
        namesEachTest(readme);
        end("README.md tells what is so");
    }
}
