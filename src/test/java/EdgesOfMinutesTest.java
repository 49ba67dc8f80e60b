/** The boundaries that the document names for promises 7 and 13, and for A MINUTE, sentence by sentence. */
public final class EdgesOfMinutesTest {
    private static final int LOW = Edge.LOW;
    private static final int HIGH = Edge.HIGH;

    private EdgesOfMinutesTest() {
    }

    public static void main(String[] args) {
        howMany();
        lastDay();
        said();
        suns();
        sunsOfAllDays();
        climbs();
        belowSunset();
        personByPerson();
        rests();
        climbing();
        aheadOfThisMinute();
        speaking();
        draws();
        nightfall();
        endOfDay();
        fullBook();
        bookLines();
        bookWhat();
        bookBounds();
        Edge.finish(7, 13);
    }

    private static LastWordHill withOne(String law) {
        LastWordHill x = new LastWordHill();
        x.person(0, 1, 2);
        Check.tell(x, 0, law);
        return x;
    }

    private static LastWordHill speaker(String law) {
        LastWordHill x = withOne(law);
        x.act(1, 0, 6);
        x.set(4, 0, 99);
        return x;
    }

    private static void looks(LastWordHill x, int what, int want) {
        Check.due("look(" + what + ")", x.look(what), want);
    }

    private static void tells(LastWordHill x, int who, int what, int want) {
        Check.due("of(" + who + ", " + what + ")", x.of(who, what), want);
    }

    private static void howMany() {
        LastWordHill x = withOne("");
        x.ask(3);
        Edge.sentence(7, "MINUTES go by (1 .. 60)");
        String before = Seen.all(x);
        for (int n : new int[] {0, -1, 61, LOW, HIGH}) {
            Check.due("minutes(" + n + ")", x.minutes(n), -1);
        }
        Check.same("nothing is done", Seen.all(x), before);
        Check.due("minutes(1)", x.minutes(1), 0);
        looks(x, 6, 1);
        Check.due("minutes(60)", x.minutes(60), 0);
        looks(x, 6, 1);
        looks(x, 7, 1);
    }

    /** So many days need more than the 512 calls that are promised. */
    private static void lastDay() {
        LastWordHill x = new LastWordHill();
        Edge.sentence(7, "NONE, and nothing is done, if one can't be, or DAY and 1 is above 9998.");
        int went = 0;
        for (int day = 0; day < 9997; day++) {
            went += x.minutes(60) == 0 ? 1 : 0;
        }
        Check.due("days that went by", went, 9997);
        looks(x, 7, 9997);
        Check.due("DAY and 1 is 9998: minutes(59)", x.minutes(59), 0);
        looks(x, 7, 9997);
        Check.due("DAY and 1 is 9998: minutes(60)", x.minutes(60), 0);
        looks(x, 7, 9998);
        looks(x, 6, 59);
        String before = Seen.all(x);
        Check.due("DAY and 1 is 9999: minutes(1)", x.minutes(1), -1);
        Check.due("DAY and 1 is 9999: minutes(60)", x.minutes(60), -1);
        Check.same("nothing is done", Seen.all(x), before);
    }

    private static void said() {
        LastWordHill x = speaker("says 1000;");
        x.person(0, 1, 0);
        x.act(1, 1, 7);
        x.set(4, 1, 99);
        Edge.sentence(7, "how often something was said");
        Check.due("two in a MINUTE", x.minutes(1), 2);
        x.act(0, 0, 9);
        Check.due("what was shouted is not of the MINUTE", x.minutes(1), 2);
        Check.due("two in each MINUTE below SUNSET", x.minutes(60), 2 * 38);
        Check.due("nobody goes", x.minutes(60), 0);
    }

    private static void suns() {
        LastWordHill x = new LastWordHill();
        Edge.sentence(7, "(a) MINUTE 0: line by line of SUNS for this DAY: SUNSET is that.");
        Check.lines(x, 2, "from 0 set 30;from 2 set 50;from 0 set 20;from 1 set 10;", 4);
        looks(x, 5, 40);
        x.minutes(1);
        looks(x, 5, 20);
        x.set(5, 0, 45);
        x.minutes(59);
        looks(x, 5, 45);
        x.minutes(1);
        looks(x, 5, 10);
        Check.lines(x, 2, "from 1 set 33;", 1);
        x.minutes(59);
        Check.due("told behind MINUTE 0", x.look(5), 10);
        x.minutes(60);
        Check.due("no line for this DAY", x.look(5), 10);
    }

    /** DAY 999 lies behind the 512 calls that are promised. */
    private static void sunsOfAllDays() {
        LastWordHill x = withOne("");
        Edge.sentence(7, "3. A MINUTE. (a) MINUTE 0: line by line of SUNS for this DAY");
        Check.lines(x, 2, "from 999 set 59;from 0 set 10;", 2);
        Check.lines(x, 1, "on 999 person 0 with 19 at 59;", 1);
        x.minutes(1);
        looks(x, 5, 10);
        x.minutes(59);
        for (int day = 1; day < 999; day++) {
            x.minutes(60);
        }
        looks(x, 7, 999);
        looks(x, 5, 10);
        x.minutes(1);
        looks(x, 5, 59);
        x.minutes(58);
        tells(x, 0, 5, 0);
        x.set(5, 0, 58);
        x.minutes(1);
        Check.due("let go in MINUTE 59 of DAY 999", x.of(0, 6), 19);
    }

    private static void climbs() {
        LastWordHill x = withOne("");
        x.person(0, 1, 0);
        Edge.sentence(7, "(b) Line by line of CLIMBS for this DAY and MINUTE: is he not GOING: GOING with that WORD.");
        Check.lines(x, 1, "on 0 person 0 with 19 at 0;on 0 person 1 with 5 at 1;on 0 person 1 with 6 at 1;"
            + "on 1 person 0 with 7 at 59;on 0 person 0 with 8 at 2;", 5);
        x.minutes(1);
        tells(x, 0, 6, 19);
        tells(x, 1, 6, -1);
        x.minutes(1);
        Check.due("of two lines the first", x.of(1, 6), 5);
        x.minutes(1);
        Check.due("GOING already", x.of(0, 6), 19);
        x.minutes(57);
        tells(x, 0, 5, 0);
        x.minutes(59);
        tells(x, 0, 5, 0);
        looks(x, 6, 59);
        x.minutes(1);
        Check.due("behind SUNSET, too", x.of(0, 6), 7);
        Check.due("he stays at the foot", x.of(0, 4), 0);
    }

    private static void belowSunset() {
        LastWordHill x = withOne("climbs 1;tires 1;says 1000;");
        Edge.sentence(7, "(c) If MINUTE is below SUNSET");
        x.set(5, 0, 10);
        x.act(1, 0, 3);
        x.minutes(9);
        tells(x, 0, 4, 9);
        x.minutes(1);
        Check.due("in MINUTE 9", x.of(0, 4), 10);
        x.minutes(1);
        tells(x, 0, 4, 0);
        x.act(1, 0, 3);
        x.minutes(49);
        Check.due("not behind it", x.of(0, 4), 0);
        x.set(4, 0, 99);
        x.minutes(9);
        x.set(5, 0, 11);
        Check.due("in MINUTE 9 of 11", x.minutes(1), 1);
        Check.due("in MINUTE 10 of 11", x.minutes(1), 1);
        int state = x.look(9);
        Check.due("in MINUTE 11 of 11", x.minutes(1), 0);
        Check.due("no DRAW at SUNSET", x.look(9), state);
        x.act(1, 0, 3);
        x.set(4, 0, 99);
        Check.due("behind it", x.minutes(48), 0);
        Check.due("no DRAW behind it", x.look(9), state);
    }

    /** Who comes ahead counts among the others of who comes behind him in the same MINUTE, not the other way round. */
    private static void personByPerson() {
        Edge.sentence(7, "PERSON by PERSON GOING: is he below the top");
        LastWordHill x = withOne("climbs 50 when others>0;climbs 1;tires 0;says 1000;");
        x.person(0, 1, 0);
        x.person(0, 1, 0);
        for (int who = 0; who < 3; who++) {
            x.act(1, who, 5 + who);
            x.set(4, who, who == 1 ? 98 : 0);
        }
        x.minutes(1);
        tells(x, 0, 4, 1);
        tells(x, 1, 4, 99);
        tells(x, 2, 4, 50);
        x.minutes(1);
        tells(x, 0, 4, 51);
        tells(x, 2, 4, 99);
        x.set(4, 0, 99);
        Check.due("all three", x.minutes(1), 3);
        Check.due("the last of them has the last word", x.look(2), 7);
        for (int i = 0; i < 3; i++) {
            Check.bookLine(x, 1 + i, 0, 2, 0, i, 5 + i);
        }
        x.act(2, 2, 0);
        Check.due("one is called back", x.minutes(1), 2);
        Check.due("the last of those GOING", x.look(2), 6);
        Edge.sentence(7, "a DRAW of m: it becomes");
        x = withOne("says 0;");
        for (int who = 0; who < 10; who++) {
            x.person(0, 1, 0);
            x.act(1, who, 0);
            x.set(4, who, 99);
        }
        int state = 0;
        for (int who = 0; who < 10; who++) {
            state = (int) next(state);
        }
        x.minutes(1);
        Check.due("STATE behind ten DRAWS", x.look(9), state);
    }

    private static void rests() {
        LastWordHill x = withOne("climbs 5;tires 9;");
        x.act(1, 0, 3);
        Edge.sentence(7, "is he below the top: is BREATH 0, he rests: BREATH 9 more");
        x.set(3, 0, 0);
        x.set(4, 0, 98);
        x.minutes(1);
        tells(x, 0, 3, 9);
        tells(x, 0, 4, 98);
        x.set(4, 0, 0);
        x.minutes(1);
        tells(x, 0, 3, 0);
        tells(x, 0, 4, 5);
        x.set(3, 0, 1);
        x.minutes(1);
        Check.due("with BREATH 1 he climbs", x.of(0, 4), 10);
        x.act(2, 0, 0);
        x.minutes(1);
        Check.due("who is not GOING does not rest", x.of(0, 3), 0);
    }

    private static void climbing() {
        LastWordHill x = withOne("climbs 2;tires 5;");
        x.act(1, 0, 3);
        Edge.sentence(7, "AT so much more (99 at most)");
        int[][] at = {{96, 98}, {97, 99}, {98, 99}};
        for (int[] a : at) {
            x.set(4, 0, a[0]);
            x.minutes(1);
            tells(x, 0, 4, a[1]);
        }
        Check.lines(x, 0, "climbs 99;", 1);
        for (int from : new int[] {0, 98}) {
            x.set(4, 0, from);
            x.minutes(1);
            tells(x, 0, 4, 99);
        }
        Edge.sentence(7, "tires is asked (ahead, too): BREATH so much less (0 at least).");
        Check.lines(x, 0, "climbs 2;tires 5;", 2);
        int[][] breath = {{6, 1}, {5, 0}, {4, 0}, {1, 0}};
        for (int[] b : breath) {
            x.set(4, 0, 0);
            x.set(3, 0, b[0]);
            x.minutes(1);
            tells(x, 0, 3, b[1]);
        }
        Check.lines(x, 0, "climbs 50 when breath>49;climbs 1;tires height;", 3);
        x.set(3, 0, 99);
        x.set(4, 0, 0);
        x.minutes(1);
        Check.due("where he was ahead of it", x.of(0, 3), 99);
        x.minutes(1);
        Check.due("by 50", x.of(0, 3), 49);
        Check.due("with the BREATH he had ahead of it", x.of(0, 4), 99);
    }

    private static void aheadOfThisMinute() {
        LastWordHill x = withOne("climbs 1;says 1000;");
        x.act(1, 0, 3);
        x.set(4, 0, 98);
        Edge.sentence(7, "Is he at the top ahead of this MINUTE: says is asked, a DRAW of 1000");
        Check.due("who comes up says nothing yet", x.minutes(1), 0);
        tells(x, 0, 4, 99);
        Check.due("no DRAW", x.look(9), 0);
        Check.due("in the next MINUTE", x.minutes(1), 1);
        Check.due("a DRAW", x.look(9), 1013904223);
        x.act(2, 0, 0);
        x.set(4, 0, 99);
        Check.due("who is not GOING says nothing", x.minutes(1), 0);
        Check.due("no DRAW", x.look(9), 1013904223);
        Check.lines(x, 0, "says 0;", 1);
        x.act(1, 0, 3);
        Check.due("never", x.minutes(1), 0);
        Check.due("but a DRAW", x.look(9), 1664525 * 1013904223 + 1013904223);
    }

    private static void speaking() {
        LastWordHill x = speaker("says 1000;tires 5;");
        Edge.sentence(7, "below it he says his WORD: LAST is that (of the day), SAID one more, BREATH is tires less "
            + "(asked ahead), 0 at least; else BREATH is 1 more (99 at most).");
        int[][] breath = {{99, 94}, {6, 1}, {5, 0}, {4, 0}, {0, 0}};
        for (int i = 0; i < breath.length; i++) {
            x.set(3, 0, breath[i][0]);
            Check.due("with BREATH " + breath[i][0], x.minutes(1), 1);
            tells(x, 0, 3, breath[i][1]);
            tells(x, 0, 7, i + 1);
        }
        looks(x, 2, 6);
        Check.lines(x, 0, "says 0;tires 5;", 2);
        int[][] more = {{0, 1}, {97, 98}, {98, 99}, {99, 99}};
        for (int[] m : more) {
            x.set(3, 0, m[0]);
            Check.due("with BREATH " + m[0], x.minutes(1), 0);
            tells(x, 0, 3, m[1]);
        }
        tells(x, 0, 7, breath.length);
        Check.lines(x, 0, "says 1000;tires breath;", 2);
        x.set(3, 0, 40);
        x.minutes(1);
        tells(x, 0, 3, 0);
    }

    /** By longs, so that nothing wraps but what is cut off here. */
    private static long next(int state) {
        return Math.floorMod(1664525L * state + 1013904223L, 1L << 32);
    }

    private static void draws() {
        Edge.sentence(7, "it becomes 1664525 times itself + 1013904223 (ints, which wrap), "
            + "then it is its highest 24 bits (without sign) modulo m");
        int below = 0;
        for (int state : new int[] {0, 1, -1, LOW, HIGH, 1013904223, 123456789, 2000000000, 1000, -1000, 5555}) {
            long after = next(state);
            int drawn = (int) (after / 256 % 1000);
            below += after > HIGH ? 1 : 0;
            LastWordHill x = speaker("says " + drawn + ";");
            x.state(state);
            Check.due("not below " + drawn, x.minutes(1), 0);
            Check.due("STATE", x.look(9), (int) after);
            x = speaker("says " + (drawn + 1) + ";");
            x.state(state);
            Check.due("below " + (drawn + 1), x.minutes(1), 1);
            Check.due("STATE", x.look(9), (int) after);
        }
        Check.due("some STATES are below 0 then", below > 2, true);
    }

    private static void nightfall() {
        LastWordHill x = speaker("says 0;");
        x.person(0, 1, 0);
        Edge.sentence(7, "(d) If MINUTE is SUNSET: WORD is LAST, or none, if nothing was said this day; "
            + "all are at the foot, not GOING, BREATH 99.");
        x.set(6, 0, 4);
        x.set(5, 0, 10);
        x.set(3, 0, 0);
        x.set(4, 1, 99);
        x.set(3, 1, 50);
        x.act(0, 1, 9);
        x.minutes(10);
        Check.due("ahead of it", x.look(1), 4);
        tells(x, 1, 4, 99);
        x.minutes(1);
        looks(x, 1, 9);
        looks(x, 2, 9);
        for (int who = 0; who < 2; who++) {
            tells(x, who, 3, 99);
            tells(x, who, 4, 0);
            tells(x, who, 5, 0);
            tells(x, who, 6, -1);
        }
        x.minutes(59);
        Check.due("until the next SUNSET", x.look(1), 9);
        x.minutes(1);
        Check.due("nothing was said this day", x.look(1), -1);
        x.set(6, 0, 4);
        x.set(5, 0, 59);
        x.minutes(5);
        x.set(5, 0, 15);
        x.minutes(50);
        Check.due("SUNSET was put behind us: none this day", x.look(1), 4);
        looks(x, 7, 2);
    }

    private static void endOfDay() {
        LastWordHill x = withOne("");
        x.set(4, 0, 99);
        x.act(0, 0, 9);
        Edge.sentence(7, "(e) MINUTE is one more; behind 59 it is 0, nothing was said yet, DAY is one more.");
        x.minutes(58);
        looks(x, 6, 58);
        x.minutes(1);
        looks(x, 6, 59);
        looks(x, 7, 0);
        looks(x, 2, 9);
        x.minutes(1);
        looks(x, 6, 0);
        looks(x, 7, 1);
        looks(x, 2, -1);
        looks(x, 1, 9);
        x.set(5, 0, 59);
        x.set(4, 0, 99);
        x.act(0, 0, 8);
        x.minutes(59);
        Check.due("ahead of a SUNSET in MINUTE 59", x.look(1), 9);
        x.minutes(1);
        Check.due("WORD", x.look(1), 8);
        Check.due("LAST", x.look(2), -1);
    }

    private static void fullBook() {
        LastWordHill x = speaker("says 1000;");
        Edge.sentence(13, "THE BOOK (150 lines; no more then)");
        for (int i = 0; i < 149; i++) {
            x.ask(i % 10);
        }
        looks(x, 8, 149);
        Check.due("book(148, 3)", x.book(148, 3), 8);
        Check.due("book(149, 3)", x.book(149, 3), -2);
        x.act(0, 0, 11);
        looks(x, 8, 150);
        Check.bookLine(x, 149, 0, 0, 1, 0, 11);
        String before = bookOf(x);
        x.act(0, 0, 12);
        Check.due("LAST", x.look(2), 12);
        x.ask(0);
        Check.due("ASKED", x.look(3), 150);
        Check.due("said", x.minutes(1), 1);
        x.minutes(40);
        Check.due("kept", x.look(1), 6);
        looks(x, 8, 150);
        Check.same("THE BOOK", bookOf(x), before);
        Check.due("book(150, 0)", x.book(150, 0), -2);
    }

    private static String bookOf(LastWordHill x) {
        StringBuilder s = new StringBuilder();
        for (int i = 0; i < 150; i++) {
            for (int what = 0; what < 5; what++) {
                s.append(x.book(i, what)).append(' ');
            }
        }
        return s.toString();
    }

    private static void bookLines() {
        LastWordHill x = speaker("says 1000;");
        Check.lines(x, 3, "word 6 answers 9;", 1);
        x.set(5, 0, 10);
        x.minutes(9);
        x.undo();
        Edge.sentence(13, "DAY, MINUTE, what (0 said, 1 shouted, 2 kept, 3 asked and right, 4 asked and wrong), "
            + "who (the PERSON; 2: NONE; 3, 4: the QUESTION), how much (0, 1: the WORD; 2, 3, 4: the WORD kept, NONE)");
        looks(x, 8, 8);
        Check.bookLine(x, 7, 0, 7, 0, 0, 6);
        x.ask(9);
        Check.bookLine(x, 8, 0, 8, 4, 9, -1);
        x.act(0, 0, 19);
        Check.bookLine(x, 9, 0, 8, 1, 0, 19);
        x.minutes(3);
        Check.bookLine(x, 10, 0, 8, 0, 0, 6);
        Check.bookLine(x, 11, 0, 9, 0, 0, 6);
        Check.bookLine(x, 12, 0, 10, 2, -1, 6);
        x.ask(9);
        Check.bookLine(x, 13, 0, 11, 3, 9, 6);
        x.minutes(60);
        Check.bookLine(x, 14, 1, 10, 2, -1, -1);
        looks(x, 8, 15);
    }

    private static void bookWhat() {
        LastWordHill x = withOne("");
        Edge.sentence(13, "Of line i of THE BOOK what 0 DAY, 1 MINUTE, 2 what, 3 who, 4 how much.");
        x.set(6, 0, 19);
        x.ask(9);
        x.set(4, 0, 99);
        x.act(0, 0, 0);
        x.minutes(60);
        x.minutes(59);
        x.set(4, 0, 99);
        x.set(5, 0, 59);
        x.act(0, 0, 7);
        x.minutes(1);
        Check.bookLine(x, 0, 0, 0, 4, 9, 19);
        Check.bookLine(x, 1, 0, 0, 1, 0, 0);
        Check.bookLine(x, 2, 0, 40, 2, -1, 0);
        Check.bookLine(x, 3, 1, 40, 2, -1, -1);
        Check.bookLine(x, 4, 1, 59, 1, 0, 7);
        Check.bookLine(x, 5, 1, 59, 2, -1, 7);
        looks(x, 8, 6);
    }

    private static void bookBounds() {
        LastWordHill x = new LastWordHill();
        Edge.sentence(13, "NONE - 1 if there is none such, or another what.");
        Check.due("book(0, 0)", x.book(0, 0), -2);
        x.ask(3);
        Check.due("book(0, 3)", x.book(0, 3), 3);
        for (int i : new int[] {-1, 1, 149, 150, LOW, HIGH}) {
            for (int what = 0; what < 5; what++) {
                Check.due("book(" + i + ", " + what + ")", x.book(i, what), -2);
            }
        }
        for (int what : new int[] {-1, 5, LOW, HIGH}) {
            Check.due("book(0, " + what + ")", x.book(0, what), -2);
        }
        x.undo();
        Check.due("undone: book(0, 3)", x.book(0, 3), -2);
    }
}
