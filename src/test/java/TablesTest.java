/** Promises 20 to 35: guards, ways, words as rows, the council, the thing, prices, bells, worths, the game. */
public final class TablesTest {
    private TablesTest() {
    }

    public static void main(String[] args) {
        watch();
        guard();
        step();
        down();
        spell();
        over();
        speaker();
        council();
        rule();
        thing();
        price();
        prices();
        bell();
        worth();
        worths();
        game();
        Check.finish();
    }

    private static void watch() {
        LastWordHill x = new LastWordHill();
        Check.due("watch(-2, 5)", x.watch(-2, 5), -1);
        Check.due("watch(60, 60)", x.watch(60, 60), -1);
        Check.due("watch(5, 60)", x.watch(5, 60), -1);
        Check.due("watch(5, 4)", x.watch(5, 4), -1);
        for (int i = 1; i <= 9; i++) {
            Check.due("watch " + i, x.watch(59, 59), i);
        }
        Check.due("the tenth", x.watch(0, 59), -1);
        Check.due("guard(59, NONE)", x.guard(59, -1), 1);
        Check.due("watch(NONE, )", x.watch(-1, 77), 0);
        Check.due("guard(59, NONE)", x.guard(59, -1), -1);
        Check.due("watch(0, 59)", x.watch(0, 59), 1);
        Check.due("guard(0, NONE)", x.guard(0, -1), 1);
    }

    private static void guard() {
        LastWordHill x = new LastWordHill();
        x.watch(20, 39);
        x.watch(0, 19);
        x.watch(40, 59);
        x.watch(10, 49);
        Check.due("0 to 59", x.guard(0, -1), 3);
        Check.due("19 to 59", x.guard(19, -1), 2);
        Check.due("40 to 59", x.guard(40, -1), 1);
        Check.due("more than 0", x.guard(0, 0), 1);
        Check.due("more than 2", x.guard(0, 2), 1);
        Check.due("more than 3", x.guard(0, 3), 0);
        Check.due("more than 9", x.guard(0, 9), 0);
        Check.due("guard(0, 10)", x.guard(0, 10), -1);
        Check.due("guard(0, -2)", x.guard(0, -2), -1);
        Check.due("guard(60, NONE)", x.guard(60, -1), -1);
        Check.due("guard(-1, NONE)", x.guard(-1, -1), -1);
        x.watch(-1, 0);
        x.watch(0, 30);
        x.watch(32, 59);
        Check.due("31 is in none", x.guard(0, -1), -1);
        Check.due("31 is in none", x.guard(0, 9), -1);
        Check.due("32 to 59", x.guard(32, -1), 1);
        x.watch(-1, 0);
        for (int i = 0; i < 9; i++) {
            x.watch(i * 6, i == 8 ? 59 : i * 6 + 5);
        }
        Check.due("all nine", x.guard(0, -1), 9);
        Check.due("more than 8", x.guard(0, 8), 1);
        x.watch(-1, 0);
        for (int i = 50; i < 59; i++) {
            x.watch(i, i);
        }
        Check.due("nine leave out 59", x.guard(50, -1), -1);
    }

    private static void step() {
        LastWordHill x = new LastWordHill();
        int[][] wrong = {{-2, 0, 0}, {10, 0, 0}, {0, -1, 0}, {0, 20, 0}, {0, 0, -1}, {0, 0, 10}};
        for (int[] w : wrong) {
            Check.due("a wrong step", x.step(w[0], w[1], w[2]), -1);
        }
        for (int i = 1; i <= 16; i++) {
            Check.due("step " + i, x.step(9, 19, 8), i);
        }
        Check.due("the seventeenth", x.step(0, 0, 1), -1);
        Check.due("down(9, 8, 19)", x.down(9, 8, 19), 1);
        Check.due("step(NONE, , )", x.step(-1, 99, 99), 0);
        Check.due("down(9, 8, 19)", x.down(9, 8, 19), -1);
    }

    private static void down() {
        LastWordHill x = new LastWordHill();
        for (int i = 0; i < 9; i++) {
            x.step(i, 5, i + 1);
        }
        x.step(9, 5, 4);
        x.step(0, 6, 7);
        x.step(0, 5, 9);
        x.step(7, 6, 7);
        Check.due("alike", x.down(3, 3, 5), 0);
        Check.due("nine steps", x.down(0, 9, 5), 9);
        Check.due("round", x.down(8, 5, 5), 3);
        Check.due("never back to 0", x.down(9, 0, 5), -1);
        Check.due("by 6 alone", x.down(0, 7, 6), 1);
        Check.due("by 6 alone never", x.down(0, 8, 6), -1);
        Check.due("by any", x.down(0, 9, -1), 3);
        Check.due("by any alike", x.down(2, 2, -1), 0);
        Check.due("by any never", x.down(5, 3, -1), -1);
        Check.due("by a word without steps", x.down(0, 1, 7), -1);
        Check.due("down(10, 0, 5)", x.down(10, 0, 5), -1);
        Check.due("down(-1, 0, 5)", x.down(-1, 0, 5), -1);
        Check.due("down(0, 10, 5)", x.down(0, 10, 5), -1);
        Check.due("alike, but no places", x.down(10, 10, 5), -1);
        Check.due("alike, but no places", x.down(-1, -1, -1), -1);
        Check.due("alike, but no places", x.down(10, 10, -1), -1);
        Check.due("down(0, 0, 20)", x.down(0, 0, 20), -1);
        Check.due("down(0, 0, -2)", x.down(0, 0, -2), -1);
    }

    private static void spell() {
        LastWordHill x = new LastWordHill();
        Check.due("spell(-1, 1, 0)", x.spell(-1, 1, 0), false);
        Check.due("spell(8, 1, 0)", x.spell(8, 1, 0), false);
        Check.due("spell(0, -1, 0)", x.spell(0, -1, 0), false);
        Check.due("spell(0, 6, 0)", x.spell(0, 6, 0), false);
        int[] beyond = {1, 10, 100, 1000, 10000, 100000};
        for (int n = 0; n <= 5; n++) {
            Check.due("one digit too many", x.spell(0, n, beyond[n]), false);
            Check.due("below 0", x.spell(0, n, -1), false);
            Check.due("as many as fit", x.spell(0, n, beyond[n] - 1), true);
        }
        Check.due("word 7", x.spell(7, 5, 99998), true);
        Check.due("over(0, 7)", x.over(0, 7), 1);
        Check.due("empty again", x.spell(7, 0, 0), true);
        Check.due("over(0, 7)", x.over(0, 7), -1);
    }

    private static void over() {
        LastWordHill x = new LastWordHill();
        x.spell(0, 3, 1);
        x.spell(1, 3, 2);
        x.spell(2, 3, 12);
        x.spell(3, 3, 112);
        x.spell(4, 1, 1);
        x.spell(5, 1, 2);
        x.spell(6, 3, 1);
        Check.due("001 to 002", x.over(0, 1), 1);
        Check.due("001 to 012", x.over(0, 2), 2);
        Check.due("001 to 112", x.over(0, 3), 3);
        Check.due("001 to 1: of as many letters", x.over(0, 4), -1);
        Check.due("1 to 2", x.over(4, 5), 1);
        Check.due("001 to another 001", x.over(0, 6), 2);
        Check.due("into an empty one", x.over(0, 7), -1);
        Check.due("alike and empty", x.over(7, 7), 0);
        Check.due("reached from 001", x.over(0, -1), 4);
        Check.due("reached from 1", x.over(4, -1), 1);
        Check.due("reached from an empty one", x.over(7, -1), 0);
        Check.due("over(8, 0)", x.over(8, 0), -1);
        Check.due("over(-1, 0)", x.over(-1, 0), -1);
        Check.due("over(0, 8)", x.over(0, 8), -1);
        Check.due("over(0, -2)", x.over(0, -2), -1);
        x.spell(1, 3, 333);
        Check.due("the bridge is gone", x.over(0, 2), -1);
    }

    private static void speaker() {
        LastWordHill x = new LastWordHill();
        Check.due("speaker(0, 0)", x.speaker(0, 0), -1);
        Check.due("speaker(-2, 0)", x.speaker(-2, 0), -1);
        Check.due("speaker(31, 0)", x.speaker(31, 0), -1);
        Check.due("speaker(1, -1)", x.speaker(1, -1), -1);
        Check.due("speaker(1, 100)", x.speaker(1, 100), -1);
        for (int i = 1; i <= 6; i++) {
            Check.due("speaker " + i, x.speaker(30, 99), i);
        }
        Check.due("the seventh", x.speaker(1, 1), -1);
        Check.due("four of them", x.council(0), 4);
        Check.due("speaker(NONE, )", x.speaker(-1, 999), 0);
        Check.due("council(0)", x.council(0), 0);
    }

    private static void council() {
        LastWordHill x = new LastWordHill();
        x.speaker(10, 0);
        Check.due("council(0)", x.council(0), 1);
        Check.due("council(10)", x.council(10), 0);
        Check.due("council(11)", x.council(11), -1);
        x.speaker(5, 4);
        x.speaker(4, 9);
        Check.due("0 takes too long", x.council(0), 2);
        // 1 speaks from 0 on, 0 leaves, 2 speaks from 5 on; with 0 ahead he alone would speak
        int[] want = {1, 0, 2};
        for (int i = 0; i < 3; i++) {
            Check.due("council(" + (10 + i) + ")", x.council(10 + i), want[i]);
        }
        Check.due("council(13)", x.council(13), -1);
        Check.due("council(9)", x.council(9), -1);
        Check.due("council(1)", x.council(1), -1);
        Check.due("council(-1)", x.council(-1), -1);
        x.speaker(-1, 0);
        x.speaker(3, 3);
        x.speaker(3, 3);
        Check.due("who begins just by his patience speaks", x.council(0), 2);
        Check.due("the first order", x.council(10), 0);
        x.speaker(-1, 0);
        x.speaker(3, 2);
        x.speaker(3, 2);
        Check.due("who would begin later leaves", x.council(0), 1);
    }

    private static void rule() {
        LastWordHill x = new LastWordHill();
        int[][] wrong = {{-1, 0, 5}, {1000, 0, 5}, {0, -1, 5}, {0, 1000, 5}, {0, 0, 0}, {0, 0, 1001}, {0, 0, -1}};
        for (int[] w : wrong) {
            Check.due("a wrong rule", x.rule(w[0], w[1], w[2]), false);
        }
        Check.due("it stays as it was", x.thing(7, 0), 1);
        Check.due("rule(1, 1, 1000)", x.rule(1, 1, 1000), true);
        Check.due("thing(7, 0)", x.thing(7, 0), 1000);
        Check.due("rule(999, 999, 1)", x.rule(999, 999, 1), true);
        Check.due("thing(7, 0)", x.thing(7, 0), 1);
        Check.due("rule(0, 0, 1000)", x.rule(0, 0, 1000), true);
        Check.due("thing(7, 1)", x.thing(7, 1), 1);
    }

    private static void thing() {
        LastWordHill x = new LastWordHill();
        x.rule(2, 0, 96);
        // 1 2 4 8 16 32 64 32
        Check.due("ROUND from 1", x.thing(1, 0), 2);
        Check.due("BEFORE from 1", x.thing(1, 1), 5);
        Check.due("97 is 1 modulo 96", x.thing(97, 1), 5);
        Check.due("ROUND from 32", x.thing(32, 0), 2);
        Check.due("BEFORE from 32", x.thing(32, 1), 0);
        Check.due("ROUND from 0", x.thing(0, 0), 1);
        x.rule(10, 3, 1000);
        // 7 73 733 333 333
        Check.due("ROUND from 7", x.thing(7, 0), 1);
        Check.due("BEFORE from 7", x.thing(7, 1), 3);
        Check.due("thing(999, 1)", x.thing(999, 1), 3);
        Check.due("thing(1000, 0)", x.thing(1000, 0), -1);
        Check.due("thing(-1, 0)", x.thing(-1, 0), -1);
        Check.due("thing(0, 2)", x.thing(0, 2), -1);
        Check.due("thing(0, -1)", x.thing(0, -1), -1);
    }

    private static void price() {
        LastWordHill x = new LastWordHill();
        Check.due("price(1000)", x.price(1000), -1);
        Check.due("price(-2)", x.price(-2), -1);
        for (int i = 1; i <= 12; i++) {
            Check.due("price " + i, x.price(988 + i - 1), i);
        }
        Check.due("the thirteenth", x.price(0), -1);
        Check.due("prices(5, 0)", x.prices(5, 0), 12);
        Check.due("price(NONE)", x.price(-1), 0);
        Check.due("prices(5, 0)", x.prices(5, 0), 0);
        Check.due("price(0)", x.price(0), 1);
        Check.due("the first is heard", x.prices(5, 0), 1);
    }

    private static void prices() {
        LastWordHill x = new LastWordHill();
        for (int v : new int[] {9, 1, 2, 3, 4, 5, 6, 6, 9}) {
            x.price(v);
        }
        Check.due("k 1", x.prices(1, 0), 7);
        Check.due("k 1 sum", x.prices(1, 1), 9 + 2 + 3 + 4 + 5 + 6 + 9);
        Check.due("k 2", x.prices(2, 0), 6);
        Check.due("k 5", x.prices(5, 0), 3);
        Check.due("k 5 sum", x.prices(5, 1), 9 + 6 + 9);
        Check.due("k 0", x.prices(0, 0), -1);
        Check.due("k 6", x.prices(6, 0), -1);
        Check.due("what 2", x.prices(1, 2), -1);
        Check.due("what -1", x.prices(1, -1), -1);
    }

    private static void bell() {
        LastWordHill x = new LastWordHill();
        int[][] all = {{1, 1}, {1, 2, 1}, {1, 3, 3, 0}, {1, 4, 6, 2, 0}, {1, 5, 10, 7, 1, 0}};
        for (int n = 1; n <= all.length; n++) {
            for (int k = 0; k <= n; k++) {
                Check.due("bell(" + n + ", " + k + ")", x.bell(n, k), all[n - 1][k]);
            }
        }
        int sum = 0;
        for (int k = 0; k <= 12; k++) {
            sum += x.bell(12, k);
        }
        Check.due("all of 12 voices", sum, 1705);
        Check.due("bell(0, 0)", x.bell(0, 0), -1);
        Check.due("bell(13, 0)", x.bell(13, 0), -1);
        Check.due("bell(5, 6)", x.bell(5, 6), -1);
        Check.due("bell(5, -1)", x.bell(5, -1), -1);
    }

    private static void worth() {
        LastWordHill x = new LastWordHill();
        Check.due("worth(-1, 0)", x.worth(-1, 0), false);
        Check.due("worth(4, 0)", x.worth(4, 0), false);
        Check.due("worth(0, -1)", x.worth(0, -1), false);
        Check.due("worth(0, 100)", x.worth(0, 100), false);
        Check.due("worth(0, 99)", x.worth(0, 99), true);
        Check.due("worth(3, 0)", x.worth(3, 0), true);
    }

    private static void worths() {
        LastWordHill x = new LastWordHill();
        for (int party = 0; party < 4; party++) {
            x.person(0, 1, party);
            x.person(0, 1, party);
        }
        Check.due("nobody at the top", x.worths(), -1);
        x.set(4, 0, 99);
        x.set(4, 1, 99);
        Check.due("one PARTY alone", x.worths(), -1);
        x.set(4, 2, 99);
        Check.due("worth 0 at first", x.worths(), 0);
        x.worth(0, 10);
        x.worth(1, 20);
        x.worth(2, 70);
        x.worth(3, 15);
        Check.due("worths()", x.worths(), 30);
        x.set(4, 6, 99);
        Check.due("worths()", x.worths(), 35);
        x.set(4, 4, 98);
        Check.due("98 is not the top", x.worths(), 35);
        x.set(4, 4, 99);
        Check.due("worths()", x.worths(), 90);
        x.set(2, 4, 1);
        Check.due("another PARTY", x.worths(), 35);
    }

    private static void game() {
        LastWordHill x = new LastWordHill();
        Check.due("nobody", x.game(0), -1);
        x.person(0, 1, 0);
        int[] taken = {-1, 1, -1, 1, 4, -1, 1, -1, 1, 4, -1, 1, -1, 1, 4, -1, 1, -1, 1, 4, -1};
        for (int breath = 0; breath < taken.length; breath++) {
            x.set(3, 0, breath);
            Check.due("game(1) of " + breath, x.game(1), taken[breath]);
            Check.due("game(0) of " + breath, x.game(0), taken[breath] == -1 ? -1 : 0);
        }
        x.person(0, 1, 0);
        x.set(3, 0, 7);
        x.set(3, 1, 7);
        Check.due("two alike", x.game(0), -1);
        Check.due("two alike", x.game(1), -1);
        x.set(3, 0, 2);
        x.set(3, 1, 9);
        Check.due("only the second", x.game(0), 1);
        Check.due("9 has 4 and 9 to take", x.game(1), 4);
        x.set(3, 0, 8);
        x.set(3, 1, 2);
        Check.due("of several the least", x.game(0), 0);
        Check.due("the fewest", x.game(1), 1);
        Check.due("game(2)", x.game(2), -1);
        Check.due("game(-1)", x.game(-1), -1);
    }
}
