import java.nio.charset.StandardCharsets;

/** What the tests share: counting wrong answers, and putting a text on the TAPE. */
final class Check {
    private static int wrong = 0;
    private static int asked = 0;
    private static String heading = "";

    private Check() {
    }

    static void due(String call, long got, long want) {
        asked++;
        if (got != want) {
            wrong++;
            System.out.println(heading + call + " answered " + got + ", due is " + want);
        }
    }

    /** What stands ahead of each wrong answer from here on. */
    static void under(String what) {
        heading = what;
    }

    static int answers() {
        return asked;
    }

    static void same(String what, String got, String want) {
        due(what + " (" + got + " for " + want + ")", got.equals(want), true);
    }

    static void due(String call, boolean got, boolean want) {
        due(call, got ? 1 : 0, want ? 1 : 0);
    }

    /** Feeds the text alone; the TAPE must be empty. */
    static void feed(LastWordHill hill, String text) {
        byte[] signs = text.getBytes(StandardCharsets.ISO_8859_1);
        int[] five = new int[5];
        for (int from = 0; from < signs.length; from += 20) {
            for (int i = 0; i < 20; i++) {
                int sign = from + i < signs.length ? signs[from + i] & 255 : 32;
                five[i / 4] = five[i / 4] << 8 | sign;
            }
            hill.feed(five[0], five[1], five[2], five[3], five[4]);
        }
        hill.end(signs.length);
    }

    static int tell(LastWordHill hill, int k, String text) {
        feed(hill, text);
        return hill.text(k);
    }

    static void lines(LastWordHill hill, int k, String text, int want) {
        due("text " + k + " '" + text + "'", tell(hill, k, text), want);
        due("fault(0) of '" + text + "'", hill.fault(0), 0);
        due("fault(1) of '" + text + "'", hill.fault(1), -1);
    }

    static void fault(LastWordHill hill, int k, String text, int kind, int place) {
        due("text " + k + " '" + text + "'", tell(hill, k, text), -1);
        due("fault(0) of '" + text + "'", hill.fault(0), kind);
        due("fault(1) of '" + text + "'", hill.fault(1), place);
    }

    static void bookLine(LastWordHill hill, int i, int... want) {
        for (int what = 0; what < 5; what++) {
            due("book(" + i + ", " + what + ")", hill.book(i, what), want[what]);
        }
    }

    static void finish() {
        System.out.println(asked + " answers, " + wrong + " not as due");
        if (wrong != 0 || asked == 0) {
            System.exit(1);
        }
    }
}
