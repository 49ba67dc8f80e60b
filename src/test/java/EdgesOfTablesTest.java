/** The boundaries that the document names for promises 20 to 35, sentence by sentence. */
public final class EdgesOfTablesTest {
    private static final int LOW = Edge.LOW;
    private static final int HIGH = Edge.HIGH;

    private EdgesOfTablesTest() {
    }

    public static void main(String[] args) {
        watch();
        guard();
        step();
        upToSixteenSteps();
        firstStepCounts();
        down();
        downBounds();
        spell();
        over();
        overBounds();
        speaker();
        upToSixSpeakers();
        council();
        councilOrder();
        rule();
        thing();
        becomes();
        price();
        upToTwelveShouts();
        prices();
        bell();
        worth();
        worths();
        game();
        gameOfSeveral();
        gameFromBreath();
        Edge.finish(20, 21, 22, 23, 24, 25, 26, 27, 28, 29, 30, 31, 32, 33, 34, 35);
    }

    private static void watch() {
        LastWordHill x = new LastWordHill();
        Edge.sentence(20, "A watch for GUARD (from NONE: none is then): how many; NONE if one can't be, or there are nine.");
        int[][] wrong = {{-2, 5}, {60, 60}, {LOW, 5}, {HIGH, HIGH}, {0, -1}, {5, 60}, {0, LOW}, {0, HIGH}};
        for (int[] w : wrong) {
            Check.due("watch(" + w[0] + ", " + w[1] + ")", x.watch(w[0], w[1]), -1);
        }
        for (int i = 1; i <= 9; i++) {
            Check.due("watch " + i, x.watch(i % 2 == 0 ? 0 : 59, i % 2 == 0 ? 0 : 59), i);
        }
        String before = Seen.all(x);
        Check.due("the tenth", x.watch(0, 59), -1);
        Check.same("it stays as it was", Seen.all(x), before);
        for (int to : new int[] {0, -1, 60, LOW, HIGH}) {
            Check.due("watch(NONE, " + to + ")", x.watch(-1, to), 0);
            Check.due("none is then", x.guard(59, -1), -1);
            Check.due("watch(0, 59)", x.watch(0, 59), 1);
        }
        Edge.sentence(20, "(up to 9: from a MINUTE 0 .. 59 to one, not below it, both too)");
        x.watch(-1, 0);
        Check.due("watch(30, 29)", x.watch(30, 29), -1);
        Check.due("watch(30, 30)", x.watch(30, 30), 1);
        Check.due("watch(31, 59)", x.watch(31, 59), 2);
        Check.due("from 30", x.guard(30, -1), 2);
        Check.due("from 31", x.guard(31, -1), 1);
        Check.due("from 59", x.guard(59, -1), 1);
        Check.due("from 29", x.guard(29, -1), -1);
    }

    private static void guard() {
        LastWordHill x = new LastWordHill();
        Edge.sentence(21, "GUARD from MINUTE x: how many (d NONE); whether more than d. NONE if they can't, or one can't be.");
        Check.due("no watch", x.guard(59, -1), -1);
        Check.due("no watch", x.guard(59, 0), -1);
        x.watch(0, 59);
        for (int minute : new int[] {-1, 60, LOW, HIGH}) {
            Check.due("guard(" + minute + ", NONE)", x.guard(minute, -1), -1);
            Check.due("guard(" + minute + ", 0)", x.guard(minute, 0), -1);
        }
        for (int d : new int[] {-2, 10, LOW, HIGH}) {
            Check.due("guard(0, " + d + ")", x.guard(0, d), -1);
        }
        Check.due("guard(0, NONE)", x.guard(0, -1), 1);
        Check.due("guard(59, NONE)", x.guard(59, -1), 1);
        Edge.sentence(21, "from a MINUTE x to 59 the fewest watches in which each MINUTE is: how many; "
            + "whether they must be more than d (0 .. 9): 1, 0 (NONE: they can't)");
        x.watch(-1, 0);
        for (int i = 0; i < 9; i++) {
            x.watch(i * 6, i == 8 ? 59 : i * 6 + 5);
        }
        Check.due("all nine", x.guard(0, -1), 9);
        for (int d = 0; d <= 9; d++) {
            Check.due("guard(0, " + d + ")", x.guard(0, d), d < 9 ? 1 : 0);
        }
        Check.due("from 48", x.guard(48, -1), 1);
        Check.due("from 47", x.guard(47, -1), 2);
        x.watch(-1, 0);
        x.watch(0, 30);
        x.watch(32, 59);
        Check.due("31 is in none", x.guard(31, -1), -1);
        Check.due("31 is in none", x.guard(0, 9), -1);
        Check.due("from 32", x.guard(32, 0), 1);
        x.watch(-1, 0);
        x.watch(0, 58);
        Check.due("59 is in none", x.guard(0, -1), -1);
        x.watch(-1, 0);
        for (int i = 0; i < 9; i++) {
            x.watch(i, i == 8 ? 58 : i);
        }
        Check.due("59 is in none of nine", x.guard(0, -1), -1);
        Check.due("59 is in none of nine", x.guard(0, 9), -1);
        x.watch(-1, 0);
        x.watch(1, 59);
        Check.due("0 is in none", x.guard(0, -1), -1);
        Check.due("0 is in none", x.guard(0, 0), -1);
        Check.due("from 1", x.guard(1, -1), 1);
    }

    private static void step() {
        LastWordHill x = new LastWordHill();
        Edge.sentence(22, "A step of WAYS (a NONE: none is then): how many; NONE if one can't be, or there are sixteen.");
        int[][] wrong = {{-2, 0, 0}, {10, 0, 0}, {LOW, 0, 0}, {HIGH, 0, 0}, {0, -1, 0}, {0, 20, 0}, {0, LOW, 0}, {0, HIGH, 0},
            {0, 0, -1}, {0, 0, 10}, {0, 0, LOW}, {0, 0, HIGH}};
        for (int[] w : wrong) {
            Check.due("step(" + w[0] + ", " + w[1] + ", " + w[2] + ")", x.step(w[0], w[1], w[2]), -1);
        }
        Check.due("step(0, 0, 9)", x.step(0, 0, 9), 1);
        Check.due("step(9, 19, 0)", x.step(9, 19, 0), 2);
        for (int i = 3; i <= 16; i++) {
            Check.due("step " + i, x.step(3, 3, 3), i);
        }
        String before = Seen.all(x);
        Check.due("the seventeenth", x.step(0, 5, 1), -1);
        Check.same("it stays as it was", Seen.all(x), before);
        Check.due("down(0, 9, 0)", x.down(0, 9, 0), 1);
        Check.due("down(9, 0, 19)", x.down(9, 0, 19), 1);
        Check.due("step(NONE, ..)", x.step(-1, 99, LOW), 0);
        Check.due("none is then", x.down(0, 9, -1), -1);
        Check.due("none is then", x.down(0, 9, 0), -1);
        Check.due("one again", x.step(0, 5, 8), 1);
        Check.due("by the one alone", x.down(0, 8, 5), 1);
        Check.due("by the one alone", x.down(0, 8, -1), 1);
        Check.due("the second is none again", x.down(9, 0, 19), -1);
        Check.due("the second is none again", x.down(9, 0, -1), -1);
    }

    private static void upToSixteenSteps() {
        LastWordHill x = new LastWordHill();
        Edge.sentence(22, "told steps (up to 16: place a (0 .. 9), WORD w leads to place b)");
        for (int i = 0; i < 15; i++) {
            Check.due("step " + i, x.step(9, i, 0), i + 1);
        }
        Check.due("the sixteenth", x.step(0, 19, 9), 16);
        Check.due("by the sixteenth", x.down(0, 9, 19), 1);
        Check.due("the seventeenth", x.step(1, 19, 9), -1);
        Check.due("not by the seventeenth", x.down(1, 9, 19), -1);
        x.step(-1, 0, 0);
        Check.due("from place 9 to itself", x.step(9, 0, 9), 1);
        Check.due("from place 0 to itself", x.step(0, 0, 0), 2);
        Check.due("it leads no further", x.down(0, 9, 0), -1);
        Check.due("it leads no further", x.down(9, 0, -1), -1);
    }

    private static void firstStepCounts() {
        LastWordHill x = new LastWordHill();
        Edge.sentence(22, "(Of several for one place and WORD the first counts.)");
        x.step(0, 3, 1);
        x.step(0, 3, 2);
        x.step(0, 4, 5);
        Check.due("by the first", x.down(0, 1, 3), 1);
        Check.due("not by the second", x.down(0, 2, 3), -1);
        Check.due("not by the second with any", x.down(0, 2, -1), -1);
        Check.due("by another WORD", x.down(0, 5, -1), 1);
    }

    private static void down() {
        LastWordHill x = new LastWordHill();
        for (int place = 0; place < 9; place++) {
            x.step(place, 5, place + 1);
        }
        x.step(0, 6, 8);
        x.step(9, 5, 7);
        Edge.sentence(23, "DOWN from a to b by WORD w (alike: 0); by any (w NONE).");
        for (int place = 0; place < 10; place++) {
            Check.due("alike " + place, x.down(place, place, 19), 0);
            Check.due("alike " + place, x.down(place, place, -1), 0);
        }
        Edge.sentence(23, "DOWN from a to b if the hill says w at each place: behind how many steps (NONE: never); "
            + "with any WORDS: the fewest.");
        Check.due("nine steps", x.down(0, 9, 5), 9);
        Check.due("two by any", x.down(0, 9, -1), 2);
        Check.due("round 7, 8, 9", x.down(9, 8, 5), 2);
        Check.due("never back", x.down(9, 6, 5), -1);
        Check.due("never back by any", x.down(9, 6, -1), -1);
        Check.due("6 ends at 8", x.down(0, 8, 6), 1);
        Check.due("6 goes no further", x.down(0, 9, 6), -1);
        Check.due("no step by 7", x.down(0, 1, 7), -1);
    }

    private static void downBounds() {
        LastWordHill x = new LastWordHill();
        x.step(0, 0, 9);
        x.step(9, 19, 0);
        Edge.sentence(23, "NONE if never, or one can't be.");
        for (int place : new int[] {-1, 10, LOW, HIGH}) {
            for (int w : new int[] {-1, 0, 19}) {
                Check.due("down(" + place + ", 0, " + w + ")", x.down(place, 0, w), -1);
                Check.due("down(0, " + place + ", " + w + ")", x.down(0, place, w), -1);
                Check.due("alike, but no place", x.down(place, place, w), -1);
            }
        }
        for (int w : new int[] {-2, 20, LOW, HIGH}) {
            Check.due("down(0, 9, " + w + ")", x.down(0, 9, w), -1);
            Check.due("alike, but no WORD", x.down(0, 0, w), -1);
        }
        Check.due("down(0, 9, 0)", x.down(0, 9, 0), 1);
        Check.due("down(9, 0, 19)", x.down(9, 0, 19), 1);
    }

    private static void spell() {
        LastWordHill x = new LastWordHill();
        Edge.sentence(24, "Letters of WORD 0 .. 7 (n 0 .. 5 digits of v, the first one highest): true; false if one can't be.");
        for (int word : new int[] {-1, 8, LOW, HIGH}) {
            Check.due("spell(" + word + ", 1, 1)", x.spell(word, 1, 1), false);
        }
        for (int n : new int[] {-1, 6, LOW, HIGH}) {
            Check.due("spell(0, " + n + ", 0)", x.spell(0, n, 0), false);
        }
        x.spell(0, 2, 11);
        x.spell(1, 2, 12);
        int[] highest = {0, 9, 99, 999, 9999, 99999};
        for (int n = 0; n <= 5; n++) {
            for (int v : new int[] {-1, highest[n] + 1, LOW, HIGH}) {
                Check.due("spell(0, " + n + ", " + v + ")", x.spell(0, n, v), false);
            }
        }
        Check.due("it stays as it was", x.over(0, 1), 1);
        for (int n = 0; n <= 5; n++) {
            Check.due("spell(7, " + n + ", " + highest[n] + ")", x.spell(7, n, highest[n]), true);
            Check.due("spell(6, " + n + ", 0)", x.spell(6, n, 0), true);
            Check.due("one letter apart, or more, or none", x.over(6, 7), n == 1 ? 1 : -1);
        }
    }

    private static void over() {
        LastWordHill x = new LastWordHill();
        Edge.sentence(25, "two that differ in just one letter at one place (of as many letters) go over into one another");
        int[][] words = {{5, 10000}, {5, 0}, {5, 1}, {4, 1}, {4, 0}, {5, 1}, {0, 0}, {0, 0}};
        for (int word = 0; word < 8; word++) {
            x.spell(word, words[word][0], words[word][1]);
        }
        Check.due("in the first letter", x.over(0, 1), 1);
        Check.due("in the last letter", x.over(1, 2), 1);
        Check.due("in two letters", x.over(0, 2), 2);
        Check.due("not of as many letters", x.over(2, 3), -1);
        Check.due("of four", x.over(3, 4), 1);
        Check.due("in no letter", x.over(2, 5), 2);
        Edge.sentence(25, "STEPS from a WORD to a WORD: the fewest; how many WORDS can be reached");
        Check.due("back", x.over(2, 0), 2);
        Check.due("from 0", x.over(0, -1), 3);
        Check.due("from 1, WORD 0 too", x.over(1, -1), 3);
        Check.due("from 3", x.over(3, -1), 1);
        Edge.sentence(25, "OVER: STEPS (alike: 0); how many can be reached from a "
            + "(b NONE; itself not; empty ones go over into none).");
        for (int word = 0; word < 8; word++) {
            Check.due("alike " + word, x.over(word, word), 0);
        }
        Check.due("two empty ones", x.over(6, 7), -1);
        Check.due("from an empty one", x.over(7, -1), 0);
        for (int word = 0; word < 8; word++) {
            x.spell(word, 5, word);
        }
        Check.due("all but itself", x.over(0, -1), 7);
        int[] row = {0, 1, 11, 111, 1111, 11111, 22222, 22223};
        for (int word = 0; word < 8; word++) {
            x.spell(word, 5, row[word]);
        }
        Check.due("00000 to 11111", x.over(0, 5), 5);
        Check.due("six in a row", x.over(0, -1), 5);
        Check.due("no way between", x.over(5, 6), -1);
    }

    private static void overBounds() {
        LastWordHill x = new LastWordHill();
        x.spell(0, 1, 0);
        x.spell(7, 1, 9);
        Edge.sentence(25, "NONE if never, or one can't be.");
        Check.due("over(0, 7)", x.over(0, 7), 1);
        Check.due("never", x.over(0, 1), -1);
        for (int word : new int[] {-1, 8, LOW, HIGH}) {
            Check.due("over(" + word + ", 0)", x.over(word, 0), -1);
            Check.due("over(" + word + ", NONE)", x.over(word, -1), -1);
            Check.due("alike, but no such WORD", x.over(word, word), -1);
        }
        for (int word : new int[] {-2, 8, LOW, HIGH}) {
            Check.due("over(0, " + word + ")", x.over(0, word), -1);
        }
    }

    private static void speaker() {
        LastWordHill x = new LastWordHill();
        Edge.sentence(26, "A speaker of COUNCIL (minutes NONE: none is then): how many; NONE if one can't be, or there are six.");
        int[][] wrong = {{0, 0}, {-2, 0}, {31, 0}, {LOW, 0}, {HIGH, 0}, {1, -1}, {1, 100}, {1, LOW}, {1, HIGH}};
        for (int[] w : wrong) {
            Check.due("speaker(" + w[0] + ", " + w[1] + ")", x.speaker(w[0], w[1]), -1);
        }
        Check.due("nobody", x.council(0), 0);
        int[][] fine = {{1, 0}, {30, 99}, {1, 99}, {30, 0}, {1, 99}, {1, 99}};
        for (int i = 0; i < 6; i++) {
            Check.due("speaker(" + fine[i][0] + ", " + fine[i][1] + ")", x.speaker(fine[i][0], fine[i][1]), i + 1);
        }
        String before = Seen.all(x);
        Check.due("the seventh", x.speaker(1, 99), -1);
        Check.same("it stays as it was", Seen.all(x), before);
        Check.due("five of six", x.council(0), 5);
        for (int patience : new int[] {0, -1, 100, LOW, HIGH}) {
            Check.due("speaker(NONE, " + patience + ")", x.speaker(-1, patience), 0);
            Check.due("none is then", x.council(10), -1);
            Check.due("one again", x.speaker(1, 0), 1);
        }
    }

    private static void upToSixSpeakers() {
        LastWordHill x = new LastWordHill();
        Edge.sentence(26, "up to 6 told speakers (minutes 1 .. 30, patience 0 .. 99)");
        for (int i = 1; i <= 5; i++) {
            Check.due("speaker(30, 0)", x.speaker(30, 0), i);
        }
        Check.due("the first of five alone", x.council(0), 1);
        Check.due("the sixth", x.speaker(1, 99), 6);
        Check.due("the sixth counts, too", x.council(0), 2);
        Check.due("the seventh", x.speaker(1, 99), -1);
        Check.due("the seventh does not", x.council(0), 2);
        Edge.sentence(27, "in an order of all one behind the other");
        boolean[] seated = new boolean[6];
        for (int i = 0; i < 6; i++) {
            seated[x.council(10 + i)] = true;
        }
        for (int i = 0; i < 6; i++) {
            Check.due("speaker " + i + " is in it, though he may not speak", seated[i], true);
        }
        Check.due("there is no seventh", x.council(16), -1);
    }

    private static void council() {
        LastWordHill x = new LastWordHill();
        Edge.sentence(27, "COUNCIL what 0 how many, 10 + i the i-th. NONE if there is none such, or another what.");
        Check.due("of none", x.council(0), 0);
        Check.due("the first of none", x.council(10), -1);
        for (int i = 0; i < 6; i++) {
            x.speaker(1, 99);
            Check.due("all", x.council(0), i + 1);
            Check.due("the last", x.council(10 + i), i);
            Check.due("one behind the last", x.council(11 + i), -1);
        }
        for (int what : new int[] {-1, 1, 9, 16, 17, LOW, LOW + 9, LOW + 10, HIGH}) {
            Check.due("council(" + what + ")", x.council(what), -1);
        }
    }

    private static void councils(int[][] speakers, int howMany, int... order) {
        LastWordHill x = new LastWordHill();
        for (int[] s : speakers) {
            x.speaker(s[0], s[1]);
        }
        for (int i = 0; i < order.length; i++) {
            Check.due("council(" + (10 + i) + ") ahead of council(0)", x.council(10 + i), order[i]);
        }
        Check.due("council(0)", x.council(0), howMany);
        for (int i = 0; i < order.length; i++) {
            Check.due("council(" + (10 + i) + ")", x.council(10 + i), order[i]);
        }
    }

    private static void councilOrder() {
        Edge.sentence(27, "who would begin later than his patience leaves (his turn takes nothing)");
        councils(new int[][] {{3, 0}, {5, 3}}, 2, 0, 1);
        councils(new int[][] {{4, 0}, {5, 3}}, 1, 0, 1);
        councils(new int[][] {{30, 0}, {30, 0}, {1, 30}}, 2, 0, 1, 2);
        councils(new int[][] {{30, 0}, {30, 0}, {1, 29}}, 1, 0, 1, 2);
        Edge.sentence(27, "by which order most speak: how many; the i-th of it (of several orders the first)");
        councils(new int[][] {{30, 99}, {30, 30}, {30, 0}}, 3, 2, 1, 0);
        councils(new int[][] {{1, 99}, {1, 99}, {1, 0}}, 3, 2, 0, 1);
        councils(new int[][] {{1, 99}, {1, 99}, {1, 1}}, 3, 0, 2, 1);
        councils(new int[][] {{30, 99}, {30, 99}, {30, 99}, {30, 99}, {30, 99}, {30, 99}}, 4, 0, 1, 2, 3, 4, 5);
        councils(new int[][] {{1, 5}, {1, 4}, {1, 3}, {1, 2}, {1, 1}, {1, 0}}, 6, 5, 4, 3, 2, 1, 0);
    }

    private static void rule() {
        LastWordHill x = new LastWordHill();
        Edge.sentence(28, "(a, b 0 .. 999, m 1 .. 1000; 1, 0, 1000 at first)");
        Check.due("at first 999 stays", x.thing(999, 0), 1);
        Check.due("at first 999 is not 0", x.thing(999, 1), 0);
        Edge.sentence(28, "The rule of THING is told: true; false if one can't be.");
        x.rule(3, 1, 7);
        String before = Seen.all(x);
        int[][] wrong = {{-1, 0, 5}, {1000, 0, 5}, {LOW, 0, 5}, {HIGH, 0, 5}, {0, -1, 5}, {0, 1000, 5}, {0, LOW, 5}, {0, HIGH, 5},
            {0, 0, 0}, {0, 0, -1}, {0, 0, 1001}, {0, 0, LOW}, {0, 0, HIGH}};
        for (int[] w : wrong) {
            Check.due("rule(" + w[0] + ", " + w[1] + ", " + w[2] + ")", x.rule(w[0], w[1], w[2]), false);
        }
        Check.same("it stays as it was", Seen.all(x), before);
        Check.due("rule(0, 0, 1)", x.rule(0, 0, 1), true);
        Check.due("thing(999, 0)", x.thing(999, 0), 1);
        Check.due("thing(999, 1)", x.thing(999, 1), 0);
        Check.due("rule(999, 999, 1000)", x.rule(999, 999, 1000), true);
        Check.due("0 becomes 999, 999 becomes 0", x.thing(0, 0), 2);
        Check.due("rule(0, 999, 1000)", x.rule(0, 999, 1000), true);
        Check.due("0 becomes 999", x.thing(0, 1), 1);
        Check.due("999 stays", x.thing(999, 1), 0);
    }

    private static void thing() {
        LastWordHill x = new LastWordHill();
        Edge.sentence(29, "THING from x (0 .. 999; modulo m first) what 0 ROUND, 1 BEFORE. NONE if one can't be, or another what.");
        x.rule(1, 1, 1000);
        for (int v : new int[] {-1, 1000, LOW, HIGH}) {
            Check.due("thing(" + v + ", 0)", x.thing(v, 0), -1);
            Check.due("thing(" + v + ", 1)", x.thing(v, 1), -1);
        }
        for (int what : new int[] {-1, 2, LOW, HIGH}) {
            Check.due("thing(0, " + what + ")", x.thing(0, what), -1);
        }
        Check.due("all of them", x.thing(0, 0), 1000);
        Check.due("all of them", x.thing(999, 0), 1000);
        Check.due("none ahead", x.thing(999, 1), 0);
        x.rule(0, 5, 10);
        Check.due("5 modulo 10", x.thing(5, 1), 0);
        Check.due("995 modulo 10", x.thing(995, 1), 0);
        Check.due("996 modulo 10", x.thing(996, 1), 1);
        Edge.sentence(29, "ROUND: how many it comes to until one again; BEFORE: how many ahead of those that come again");
        // 1 2 4 .. 512 24 48 .. : 1000 is 8 times 125, and 2 goes round in 100 modulo 125
        x.rule(2, 0, 1000);
        Check.due("ROUND from 1", x.thing(1, 0), 100);
        Check.due("BEFORE from 1", x.thing(1, 1), 3);
        Check.due("ROUND from 8", x.thing(8, 0), 100);
        Check.due("BEFORE from 8", x.thing(8, 1), 0);
        Check.due("ROUND from 0", x.thing(0, 0), 1);
        Check.due("ROUND from 125", x.thing(125, 0), 1);
        Check.due("BEFORE from 125", x.thing(125, 1), 3);
    }

    private static void becomes() {
        LastWordHill x = new LastWordHill();
        Edge.sentence(29, "a number that goes round (0 .. 999): told rule: it becomes (a times it and b) modulo m");
        // 999 times 999 and 999 is 999000: 0 modulo 1000, and 0 becomes 999.
        x.rule(999, 999, 1000);
        Check.due("ROUND from 999", x.thing(999, 0), 2);
        Check.due("BEFORE from 999", x.thing(999, 1), 0);
        // 998 is 1 modulo 997 and 999 is 2: each becomes two more, and 997 is odd.
        x.rule(998, 999, 997);
        Check.due("ROUND from 998", x.thing(998, 0), 997);
        x.rule(999, 999, 1);
        Check.due("ROUND modulo 1", x.thing(999, 0), 1);
        Check.due("BEFORE modulo 1", x.thing(999, 1), 0);
        // 999 is 0 modulo 999.
        x.rule(0, 999, 999);
        Check.due("999 modulo 999 is 0 already", x.thing(999, 1), 0);
        Check.due("998 becomes 0", x.thing(998, 1), 1);
    }

    private static void price() {
        LastWordHill x = new LastWordHill();
        Edge.sentence(30, "A shout for PRICE (NONE: none is then): how many; NONE if one can't be, or there are twelve.");
        for (int v : new int[] {-2, 1000, LOW, HIGH}) {
            Check.due("price(" + v + ")", x.price(v), -1);
        }
        Check.due("none is heard", x.prices(1, 0), 0);
        Check.due("price(0)", x.price(0), 1);
        Check.due("price(999)", x.price(999), 2);
        for (int i = 3; i <= 12; i++) {
            Check.due("price(" + i + ")", x.price(i), i);
        }
        String before = Seen.all(x);
        Check.due("the thirteenth", x.price(999), -1);
        Check.same("it stays as it was", Seen.all(x), before);
        Check.due("price(NONE)", x.price(-1), 0);
        Check.due("none is then", x.prices(1, 1), 0);
        Check.due("one again", x.price(999), 1);
        Check.due("the sum", x.prices(5, 1), 999);
    }

    private static void upToTwelveShouts() {
        LastWordHill x = new LastWordHill();
        Edge.sentence(30, "up to 12 told shouts (0 .. 999) by merchants in turn");
        for (int i = 0; i < 11; i++) {
            Check.due("price(" + i + ")", x.price(i), i + 1);
        }
        Check.due("the sum of eleven", x.prices(1, 1), 55);
        Check.due("the twelfth", x.price(999), 12);
        Check.due("the twelfth counts, too", x.prices(1, 1), 1054);
        Check.due("the thirteenth", x.price(999), -1);
        Check.due("the thirteenth does not", x.prices(1, 0), 12);
    }

    private static void prices() {
        LastWordHill x = new LastWordHill();
        Edge.sentence(31, "PRICE what 0 HEARD, 1 the sum. NONE if k can't be, or another what.");
        Check.due("of none", x.prices(1, 0), 0);
        Check.due("of none", x.prices(5, 1), 0);
        for (int k : new int[] {0, -1, 6, LOW, HIGH}) {
            Check.due("prices(" + k + ", 0)", x.prices(k, 0), -1);
            Check.due("prices(" + k + ", 1)", x.prices(k, 1), -1);
        }
        for (int what : new int[] {-1, 2, LOW, HIGH}) {
            Check.due("prices(1, " + what + ")", x.prices(1, what), -1);
        }
        Edge.sentence(31, "each is heard, if above all of the last k (1 .. 5) ahead of it: HEARD: how many; "
            + "the sum of those heard");
        x.price(0);
        Check.due("the first is, even 0", x.prices(5, 0), 1);
        x.price(0);
        Check.due("one alike is not", x.prices(1, 0), 1);
        x.price(-1);
        for (int v : new int[] {6, 5, 4, 3, 2, 1, 6}) {
            x.price(v);
        }
        Check.due("6 is above the last five", x.prices(5, 0), 2);
        Check.due("their sum", x.prices(5, 1), 12);
        x.price(-1);
        for (int v : new int[] {6, 5, 4, 3, 2, 6}) {
            x.price(v);
        }
        int[] heard = {2, 2, 2, 2, 1};
        for (int k = 1; k <= 5; k++) {
            Check.due("the first 6 is of the last five alone: " + k, x.prices(k, 0), heard[k - 1]);
        }
        x.price(-1);
        for (int i = 0; i < 12; i++) {
            x.price(988 + i);
        }
        Check.due("all twelve", x.prices(5, 0), 12);
        Check.due("their sum", x.prices(5, 1), 12 * 988 + 66);
    }

    /** By trying all ways. */
    private static int ways(int n, int k) {
        int ways = 0;
        for (int set = 0; set < 1 << n; set++) {
            if (Integer.bitCount(set) == k && (set & set >> 1 & set >> 2) == 0) {
                ways++;
            }
        }
        return ways;
    }

    private static void bell() {
        LastWordHill x = new LastWordHill();
        Edge.sentence(32, "BELL; NONE if one can't be.");
        for (int n : new int[] {0, -1, 13, LOW, HIGH}) {
            Check.due("bell(" + n + ", 0)", x.bell(n, 0), -1);
        }
        for (int n = 1; n <= 12; n++) {
            for (int k : new int[] {-1, n + 1, LOW, HIGH}) {
                Check.due("bell(" + n + ", " + k + ")", x.bell(n, k), -1);
            }
        }
        Edge.sentence(32, "BELL of n (1 .. 12) voices of which k (0 .. n) sound: "
            + "in how many ways no three side by side do (in a row)");
        Check.due("bell(1, 0)", x.bell(1, 0), 1);
        Check.due("bell(1, 1)", x.bell(1, 1), 1);
        Check.due("bell(2, 2)", x.bell(2, 2), 1);
        Check.due("bell(3, 3)", x.bell(3, 3), 0);
        Check.due("in a row, not in a ring", x.bell(4, 3), 2);
        Check.due("bell(12, 8)", x.bell(12, 8), 15);
        Check.due("bell(12, 9)", x.bell(12, 9), 0);
        Check.due("bell(12, 12)", x.bell(12, 12), 0);
        for (int n = 1; n <= 12; n++) {
            for (int k = 0; k <= n; k++) {
                Check.due("bell(" + n + ", " + k + ")", x.bell(n, k), ways(n, k));
            }
        }
    }

    private static LastWordHill fourParties() {
        LastWordHill x = new LastWordHill();
        for (int party = 0; party < 4; party++) {
            x.person(0, 1, party);
            x.set(4, party, 99);
        }
        return x;
    }

    private static void worth() {
        LastWordHill x = fourParties();
        Edge.sentence(33, "WORTH of a PARTY is told: true; false if one can't be.");
        for (int party : new int[] {-1, 4, LOW, HIGH}) {
            Check.due("worth(" + party + ", 1)", x.worth(party, 1), false);
        }
        for (int party = 0; party < 4; party++) {
            for (int v : new int[] {-1, 100, LOW, HIGH}) {
                Check.due("worth(" + party + ", " + v + ")", x.worth(party, v), false);
            }
        }
        Check.due("it stays as it was", x.worths(), 0);
        Check.due("worth(0, 99)", x.worth(0, 99), true);
        Check.due("worths()", x.worths(), 99);
        Check.due("worth(3, 99)", x.worth(3, 99), true);
        Check.due("worths()", x.worths(), 198);
        Check.due("worth(0, 0)", x.worth(0, 0), true);
        Check.due("worths()", x.worths(), 99);
    }

    private static void worths() {
        LastWordHill x = fourParties();
        Edge.sentence(34, "WORTH of two; NONE.");
        Check.due("nobody there is", new LastWordHill().worths(), -1);
        Check.due("all are up", x.worths(), 0);
        Edge.sentence(34, "the greatest sum of two unlike PARTIES that have somebody at the top; NONE");
        for (int party = 0; party < 4; party++) {
            x.worth(party, 10 + party * 20);
        }
        Check.due("2 and 3", x.worths(), 120);
        x.set(4, 3, 98);
        Check.due("98 is not the top", x.worths(), 80);
        x.set(4, 1, 0);
        Check.due("0 and 2", x.worths(), 60);
        x.set(4, 0, 0);
        Check.due("one PARTY alone", x.worths(), -1);
        x.person(0, 1, 2);
        x.set(4, 4, 99);
        Check.due("two of one PARTY", x.worths(), -1);
        x.set(2, 4, 0);
        Check.due("two of unlike ones", x.worths(), 60);
        x.set(4, 2, 0);
        x.set(4, 4, 0);
        Check.due("nobody is up", x.worths(), -1);
    }

    /** What who begins takes of one heap, the fewest; 0 where he loses. */
    private static int fewest(int breath, boolean[] wins) {
        for (int root = 1; root * root <= breath; root++) {
            if (!wins[breath - root * root]) {
                return root * root;
            }
        }
        return 0;
    }

    private static void game() {
        LastWordHill x = new LastWordHill();
        Edge.sentence(35, "GAME what 0 the PERSON, 1 how many. NONE if who begins loses, or for another what.");
        Check.due("nobody", x.game(0), -1);
        Check.due("nobody", x.game(1), -1);
        x.person(0, 1, 0);
        x.set(3, 0, 0);
        Check.due("nothing to take", x.game(0), -1);
        Check.due("nothing to take", x.game(1), -1);
        x.set(3, 0, 2);
        Check.due("who begins loses", x.game(0), -1);
        Check.due("who begins loses", x.game(1), -1);
        x.set(3, 0, 1);
        for (int what : new int[] {-1, 2, LOW, HIGH}) {
            Check.due("game(" + what + ")", x.game(what), -1);
        }
        Edge.sentence(35, "two by turns take a square (1, 4, 9, 16, ..) of one; who takes the last one of all wins");
        boolean[] wins = new boolean[100];
        for (int breath = 0; breath <= 99; breath++) {
            int want = fewest(breath, wins);
            wins[breath] = want > 0;
            x.set(3, 0, breath);
            Check.due("game(1) of " + breath, x.game(1), want > 0 ? want : -1);
            Check.due("game(0) of " + breath, x.game(0), want > 0 ? 0 : -1);
        }
    }

    private static void gameOfSeveral() {
        LastWordHill x = new LastWordHill();
        for (int who = 0; who < 10; who++) {
            x.person(0, 1, 0);
            x.set(3, who, 0);
        }
        Edge.sentence(35, "the PERSON (of several the least), how many (the fewest) who begins well takes");
        Check.due("nothing to take", x.game(0), -1);
        x.set(3, 9, 81);
        Check.due("the last PERSON", x.game(0), 9);
        x.set(3, 0, 81);
        Check.due("two alike", x.game(0), -1);
        x.set(3, 5, 1);
        Check.due("1 of PERSON 5, or another", x.game(0), leastWinner(81, 1, 81));
        for (int who = 0; who < 10; who++) {
            x.set(3, who, 99);
        }
        Check.due("ten alike", x.game(0), -1);
        x.set(3, 0, 8);
        x.set(3, 1, 2);
        for (int who = 2; who < 10; who++) {
            x.set(3, who, 0);
        }
        Check.due("of 8 and 2", x.game(0), 0);
        Check.due("the fewest", x.game(1), 1);
        x.set(3, 0, 0);
        x.set(3, 1, 9);
        Check.due("of 9", x.game(0), 1);
        Check.due("4 and 9 win: the fewest", x.game(1), 4);
    }

    private static void gameFromBreath() {
        LastWordHill x = new LastWordHill();
        Edge.sentence(35, "GAME: from BREATH of PEOPLE two by turns take");
        x.person(0, 1, 0);
        Check.due("of 99 at first", x.game(0), leastWinner(99, 0, 0));
        x.person(0, 1, 0);
        Check.due("two of 99", x.game(0), -1);
        x.minutes(1);
        Check.due("BREATH is as it was", x.game(0), -1);
        x.act(1, 1, 3);
        x.minutes(1);
        Check.due("99 and 97: who begins wins", grundy(99) != grundy(97), true);
        Check.due("99 and 97", x.game(0) >= 0, true);
        Check.due("nothing is taken by asking", x.of(0, 3) + x.of(1, 3), 196);
    }

    /** PERSON 0, 5 and 9 have these; the first of them from whose BREATH something wins, by trying all. */
    private static int leastWinner(int a, int b, int c) {
        int[] heaps = {a, b, c};
        int[] who = {0, 5, 9};
        for (int i = 0; i < 3; i++) {
            int full = heaps[i];
            for (int root = 1; root * root <= full; root++) {
                heaps[i] = full - root * root;
                if (grundy(heaps[0]) == (grundy(heaps[1]) ^ grundy(heaps[2]))) {
                    return who[i];
                }
            }
            heaps[i] = full;
        }
        return -1;
    }

    private static int grundy(int heap) {
        int[] g = new int[heap + 1];
        for (int n = 1; n <= heap; n++) {
            boolean[] seen = new boolean[20];
            for (int root = 1; root * root <= n; root++) {
                seen[g[n - root * root]] = true;
            }
            while (seen[g[n]]) {
                g[n]++;
            }
        }
        return g[heap];
    }
}
