/** Promises 2 to 6 and 12: state, person, set, act, ask, of. */
public final class PeopleTest {
    private PeopleTest() {
    }

    public static void main(String[] args) {
        state();
        person();
        set();
        shout();
        letGoAndCall();
        ask();
        of();
        Check.finish();
    }

    private static void state() {
        LastWordHill x = new LastWordHill();
        Check.due("state(7)", x.state(7), 0);
        Check.due("state(-5)", x.state(-5), 7);
        Check.due("look(9)", x.look(9), -5);
        Check.due("state(min)", x.state(Integer.MIN_VALUE), -5);
        Check.due("look(9)", x.look(9), Integer.MIN_VALUE);
    }

    private static void person() {
        LastWordHill x = new LastWordHill();
        int[][] wrong = {{-1, 1, 0}, {10, 1, 0}, {0, 0, 0}, {0, 10, 0}, {0, 1, -1}, {0, 1, 4}};
        for (int[] w : wrong) {
            Check.due("a wrong person", x.person(w[0], w[1], w[2]), -1);
        }
        Check.due("look(0)", x.look(0), 0);
        for (int i = 0; i < 10; i++) {
            Check.due("person " + i, x.person(i, 1 + i % 9, i % 4), i);
        }
        Check.due("the eleventh", x.person(0, 1, 0), -1);
        Check.due("look(0)", x.look(0), 10);
        int[] want = {9, 1, 1, 99, 0, 0, -1, 0};
        for (int what = 0; what < want.length; what++) {
            Check.due("of(9, " + what + ")", x.of(9, what), want[what]);
        }
    }

    private static void set() {
        LastWordHill x = new LastWordHill();
        x.person(3, 4, 1);
        int[][] bounds = {{0, 0, 9}, {1, 1, 9}, {2, 0, 3}, {3, 0, 99}, {4, 0, 99}};
        for (int[] b : bounds) {
            for (int v = b[1] - 1; v <= b[2] + 1; v += b[2] - b[1] + 2) {
                Check.due("set(" + b[0] + ", 0, " + v + ")", x.set(b[0], 0, v), false);
            }
            for (int v = b[1]; v <= b[2]; v += b[2] - b[1]) {
                Check.due("set(" + b[0] + ", 0, " + v + ")", x.set(b[0], 0, v), true);
                Check.due("of(0, " + b[0] + ")", x.of(0, b[0]), v);
            }
            Check.due("set of nobody", x.set(b[0], 1, b[1]), false);
            Check.due("set of nobody", x.set(b[0], -1, b[1]), false);
        }
        Check.due("set(5, , 9)", x.set(5, 0, 9), false);
        Check.due("set(5, , 60)", x.set(5, 0, 60), false);
        Check.due("set(5, nobody, 10)", x.set(5, 77, 10), true);
        Check.due("look(5)", x.look(5), 10);
        Check.due("set(5, , 59)", x.set(5, -4, 59), true);
        Check.due("look(5)", x.look(5), 59);
        Check.due("set(6, , 20)", x.set(6, 0, 20), false);
        Check.due("set(6, , -2)", x.set(6, 0, -2), false);
        Check.due("set(6, nobody, 19)", x.set(6, 77, 19), true);
        Check.due("look(1)", x.look(1), 19);
        Check.due("set(6, , -1)", x.set(6, 0, -1), true);
        Check.due("look(1)", x.look(1), -1);
        Check.due("set(7, 0, 1)", x.set(7, 0, 1), false);
        Check.due("set(-1, 0, 1)", x.set(-1, 0, 1), false);
    }

    private static void shout() {
        LastWordHill x = new LastWordHill();
        x.person(0, 1, 0);
        x.person(0, 1, 1);
        x.set(5, 0, 10);
        Check.due("not at the top", x.act(0, 0, 3), false);
        x.set(4, 0, 98);
        Check.due("not quite at the top", x.act(0, 0, 3), false);
        x.set(4, 0, 99);
        Check.due("no such word", x.act(0, 0, 20), false);
        Check.due("no word", x.act(0, 0, -1), false);
        Check.due("nobody", x.act(0, 2, 3), false);
        Check.due("shout", x.act(0, 0, 3), true);
        Check.due("look(2)", x.look(2), 3);
        Check.due("of(0, 7)", x.of(0, 7), 1);
        Check.due("breath stays", x.of(0, 3), 99);
        Check.due("look(1)", x.look(1), -1);
        Check.bookLine(x, 0, 0, 0, 1, 0, 3);
        x.minutes(10);
        Check.due("at the sunset", x.act(0, 0, 19), true);
        Check.bookLine(x, 1, 0, 10, 1, 0, 19);
        x.minutes(1);
        Check.due("look(1)", x.look(1), 19);
        x.set(4, 0, 99);
        Check.due("behind the sunset", x.act(0, 0, 3), false);
    }

    private static void letGoAndCall() {
        LastWordHill x = new LastWordHill();
        x.person(0, 6, 0);
        Check.due("call who does not go", x.act(2, 0, 0), false);
        Check.due("no such word", x.act(1, 0, 20), false);
        Check.due("no word", x.act(1, 0, -1), false);
        Check.due("nobody", x.act(1, 1, 0), false);
        Check.due("let go", x.act(1, 0, 19), true);
        Check.due("of(0, 5)", x.of(0, 5), 1);
        Check.due("of(0, 6)", x.of(0, 6), 19);
        Check.due("let go again", x.act(1, 0, 18), false);
        x.minutes(2);
        Check.due("of(0, 4)", x.of(0, 4), 18);
        Check.due("another what", x.act(3, 0, 0), false);
        Check.due("another what", x.act(-1, 0, 0), false);
        Check.due("call nobody", x.act(2, 1, 0), false);
        Check.due("call", x.act(2, 0, 999), true);
        Check.due("of(0, 4)", x.of(0, 4), 0);
        Check.due("of(0, 5)", x.of(0, 5), 0);
        Check.due("of(0, 6)", x.of(0, 6), -1);
        Check.due("his breath stays", x.of(0, 3), 95);
        Check.due("nothing in the book", x.look(8), 0);
        x.minutes(50);
        Check.due("let go by night", x.act(1, 0, 4), true);
    }

    private static void ask() {
        LastWordHill x = new LastWordHill();
        Check.lines(x, 3, "word 7 answers 0 9;", 1);
        Check.due("wind answers nothing", x.ask(0), 0);
        x.set(6, 0, 7);
        Check.due("ask(0)", x.ask(0), 1);
        Check.due("ask(9)", x.ask(9), 1);
        Check.due("ask(5)", x.ask(5), 0);
        Check.due("ask(10)", x.ask(10), -1);
        Check.due("ask(-1)", x.ask(-1), -1);
        Check.due("ASKED", x.look(3), 4);
        Check.due("RIGHT", x.look(4), 2);
        Check.due("lines", x.look(8), 4);
        Check.bookLine(x, 0, 0, 0, 4, 0, -1);
        Check.bookLine(x, 2, 0, 0, 3, 9, 7);
        Check.bookLine(x, 3, 0, 0, 4, 5, 7);
    }

    private static void of() {
        LastWordHill x = new LastWordHill();
        x.person(9, 9, 3);
        Check.due("climbs", x.of(0, 8), 12);
        Check.due("tires", x.of(0, 9), 2);
        Check.due("says", x.of(0, 10), 849);
        Check.due("of(0, 11)", x.of(0, 11), -2);
        Check.due("of(0, -1)", x.of(0, -1), -2);
        Check.due("of(1, 0)", x.of(1, 0), -2);
        Check.due("of(-1, 0)", x.of(-1, 0), -2);
        Check.lines(x, 0, "says 100+word;climbs 0-5;tires 100;", 3);
        Check.due("not going: word 0", x.of(0, 10), 100);
        Check.due("held to 0", x.of(0, 8), 0);
        Check.due("held to 99", x.of(0, 9), 99);
        x.act(1, 0, 12);
        Check.due("going: his word", x.of(0, 10), 112);
        Check.lines(x, 0, "says 1001;climbs 9999;tires 0-9999;", 3);
        Check.due("held to 1000", x.of(0, 10), 1000);
        Check.due("held to 99", x.of(0, 8), 99);
        Check.due("held to 0", x.of(0, 9), 0);
    }
}
