/** All that can be asked of a hill without changing it, as one text: what a refused call must leave as it was. */
final class Seen {
    private static final int[] SOME_WORDS = {-1, 0, 3, 5, 19};

    private Seen() {
    }

    /** The hill, its people, its book, and the days in thought. */
    static String hill(LastWordHill x) {
        StringBuilder s = new StringBuilder("look");
        for (int what = 0; what < 14; what++) {
            add(s, x.look(what));
        }
        for (int who = 0; who < x.look(0); who++) {
            s.append(" person ").append(who).append(':');
            for (int what = 0; what < 11; what++) {
                add(s, x.of(who, what));
            }
            add(s, x.earliest(who));
        }
        s.append(" book");
        for (int i = 0; i < x.look(8); i++) {
            for (int what = 0; what < 5; what++) {
                add(s, x.book(i, what));
            }
        }
        s.append(" goes");
        for (int what = 0; what < 4; what++) {
            add(s, x.goes(60, what));
        }
        add(s, x.keeps(0));
        add(s, x.keeps(1));
        return s.toString();
    }

    /** That, what was told for thought, the TAPE's length, fault() and what can be undone. */
    static String all(LastWordHill x) {
        return hill(x) + thought(x) + " tape " + tapeLength(x) + " fault " + x.fault(0) + " " + x.fault(1) + " undo "
            + x.look(14);
    }

    static String thought(LastWordHill x) {
        StringBuilder s = new StringBuilder(" thought");
        for (int word = 0; word < 20; word++) {
            add(s, x.fits(word, 0));
        }
        add(s, x.could(0));
        add(s, x.could(1));
        for (int minute = 0; minute < 60; minute++) {
            add(s, x.guard(minute, -1));
        }
        for (int word : SOME_WORDS) {
            for (int way = 0; way < 100; way++) {
                add(s, x.down(way / 10, way % 10, word));
            }
        }
        for (int a = 0; a < 8; a++) {
            for (int b = -1; b < 8; b++) {
                add(s, x.over(a, b));
            }
        }
        for (int i = 9; i < 16; i++) {
            add(s, x.council(i == 9 ? 0 : i));
        }
        for (int v = 0; v < 1000; v += 111) {
            add(s, x.thing(v, 0));
            add(s, x.thing(v, 1));
        }
        for (int k = 1; k <= 5; k++) {
            add(s, x.prices(k, 0));
            add(s, x.prices(k, 1));
        }
        add(s, x.worths());
        add(s, x.game(0));
        add(s, x.game(1));
        return s.toString();
    }

    /** From above: the first end() that is not refused cuts nothing off. */
    static int tapeLength(LastWordHill x) {
        int n = 400;
        while (n > 0 && !x.end(n)) {
            n--;
        }
        return n;
    }

    private static void add(StringBuilder s, int answer) {
        s.append(' ').append(answer);
    }
}
