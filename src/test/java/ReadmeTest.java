import java.io.IOException;
import java.lang.reflect.Method;
import java.lang.reflect.Modifier;
import java.nio.file.Files;
import java.nio.file.Path;

/** The examples in README.md answer what their comments say, and its table names each call with its promise. */
public final class ReadmeTest {
    private static String readme;

    private ReadmeTest() {
    }

    public static void main(String[] args) throws IOException {
        readme = Files.readString(Path.of("README.md"));
        LastWordHill hill = new LastWordHill();
        keepsAWord(hill);
        answersByAText(hill);
        goesBack(hill);
        table();
        Check.finish();
    }

    /** The line stands in README.md as it is run here, with the answer that it tells ("": it tells none). */
    private static void line(String code, String comment) {
        boolean there = false;
        for (String row : readme.split("\n")) {
            there |= row.startsWith(code) && row.substring(code.length()).strip().startsWith(comment);
        }
        Check.due("README.md has '" + code + " " + comment + "'", there, true);
    }

    private static void keepsAWord(LastWordHill hill) {
        line("LastWordHill hill = new LastWordHill();", "");
        line("int who = hill.person(4, 9, 1);", "// 0:");
        int who = hill.person(4, 9, 1);
        Check.due("who", who, 0);
        line("hill.act(1, who, 5);", "// true:");
        Check.due("act", hill.act(1, who, 5), true);
        line("int top = hill.earliest(who);", "// 9:");
        Check.due("top", hill.earliest(who), 9);
        line("int heard = hill.minutes(41);", "// how often");
        Check.due("heard", hill.minutes(41), hill.of(who, 7));
        line("int kept = hill.look(1);", "// 5:");
        Check.due("kept", hill.look(1), 5);
    }

    private static void answersByAText(LastWordHill hill) {
        line("hill.feed(0x776f7264, 0x20352061, 0x6e737765, 0x72732031, 0x3b202020);", "// 20: \"word 5 answers 1;   \"");
        Check.due("feed", hill.feed(0x776f7264, 0x20352061, 0x6e737765, 0x72732031, 0x3b202020), 20);
        line("hill.end(17);", "// true:");
        Check.due("end", hill.end(17), true);
        line("int lines = hill.text(3);", "// 1;");
        Check.due("lines", hill.text(3), 1);
        line("int right = hill.ask(1);", "// 1:");
        Check.due("right", hill.ask(1), 1);
    }

    private static void goesBack(LastWordHill hill) {
        line("hill.image(true);", "// true:");
        Check.due("image(true)", hill.image(true), true);
        line("hill.undo();", "// true:");
        Check.due("undo", hill.undo(), true);
        line("int asked = hill.look(3);", "// 0");
        Check.due("asked", hill.look(3), 0);
        line("hill.image(false);", "// true:");
        Check.due("image(false)", hill.image(false), true);
        line("int again = hill.look(3);", "// 1");
        Check.due("again", hill.look(3), 1);
    }

    private static void table() {
        for (Method m : LastWordHill.class.getDeclaredMethods()) {
            if (Modifier.isPublic(m.getModifiers())) {
                String[] rows = readme.split("\\| [^\n]*`" + m.getName() + "\\([a-z, ]*\\)`[^\n]* \\|", -1);
                Check.due("rows of README.md's table with " + m.getName(), rows.length - 1, 1);
            }
        }
    }
}
