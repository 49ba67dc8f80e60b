/** The boundaries that the document names for promises 14 to 19, sentence by sentence. */
public final class EdgesOfThoughtTest {
    private static final int LOW = Edge.LOW;
    private static final int HIGH = Edge.HIGH;
    private static final int ALL_WORDS = (1 << 21) - 1;

    private EdgesOfThoughtTest() {
    }

    public static void main(String[] args) {
        goesBounds();
        goesWhat();
        goesOverNight();
        nothingStays();
        saysInThought();
        keepsToday();
        keepsTomorrow();
        keepsWithoutDraws();
        keepsParty();
        earliest();
        ifHeGoesAtOnce();
        notByTwoHundred();
        fitsBounds();
        fitsSet();
        best();
        cover();
        answer();
        upToTenTold();
        could();
        next();
        Edge.finish(14, 15, 16, 17, 18, 19);
    }

    private static LastWordHill withOne(String law) {
        LastWordHill x = new LastWordHill();
        x.person(9, 9, 2);
        Check.tell(x, 0, law);
        return x;
    }

    private static void goes(LastWordHill x, int n, int... want) {
        for (int what = 0; what < 4; what++) {
            Check.due("goes(" + n + ", " + what + ")", x.goes(n, what), want[what]);
        }
    }

    private static void goesBounds() {
        LastWordHill x = new LastWordHill();
        Edge.sentence(14, "GOES for n (1 .. 60) MINUTES: the WORD kept, LAST (none: NONE), how many are at the top, "
            + "BREATH of all then.");
        goes(x, 1, -1, -1, 0, 0);
        goes(x, 60, -1, -1, 0, 0);
        for (int who = 0; who < 10; who++) {
            x.person(0, 1, 0);
            x.set(4, who, who == 0 ? 98 : 99);
        }
        goes(x, 1, -1, -1, 9, 990);
        goes(x, 60, -1, -1, 0, 990);
        x.set(6, 0, 0);
        x.act(0, 5, 0);
        x.set(3, 3, 0);
        goes(x, 40, 0, 0, 9, 891);
        Edge.sentence(14, "NONE - 1 if one can't be, or another what.");
        for (int what = 0; what < 4; what++) {
            for (int n : new int[] {0, -1, 61, LOW, HIGH}) {
                Check.due("goes(" + n + ", " + what + ")", x.goes(n, what), -2);
            }
        }
        for (int what : new int[] {-1, 4, LOW, HIGH}) {
            Check.due("goes(1, " + what + ")", x.goes(1, what), -2);
        }
    }

    private static void goesWhat() {
        LastWordHill x = withOne("climbs 33;tires 11;says 1000;");
        x.person(0, 1, 0);
        Edge.sentence(14, "GOES what 0 the WORD, 1 LAST, 2 at the top, 3 BREATH.");
        x.set(6, 0, 19);
        x.act(1, 0, 4);
        goes(x, 1, 19, -1, 0, 187);
        goes(x, 2, 19, -1, 0, 176);
        goes(x, 3, 19, -1, 1, 165);
        goes(x, 4, 19, 4, 1, 154);
        goes(x, 40, 19, 4, 1, 99);
        goes(x, 41, 4, 4, 0, 198);
        goes(x, 60, 4, -1, 0, 198);
    }

    private static void goesOverNight() {
        LastWordHill x = withOne("climbs 99;says 1000;tires 1;");
        Edge.sentence(14, "4. IN THOUGHT (nothing of it stays; no DRAWS: he says it, if says is 500 at least). GOES for n");
        Check.lines(x, 1, "on 1 person 0 with 8 at 0;", 1);
        Check.lines(x, 2, "from 1 set 10;", 1);
        x.set(4, 0, 99);
        x.act(0, 0, 5);
        x.minutes(30);
        goes(x, 10, -1, 5, 1, 99);
        goes(x, 11, 5, 5, 0, 99);
        goes(x, 29, 5, 5, 0, 99);
        goes(x, 30, 5, -1, 0, 99);
        Check.due("CLIMBS in thought", x.goes(31, 2), 1);
        goes(x, 32, 5, 8, 1, 97);
        goes(x, 40, 5, 8, 1, 89);
        Check.due("SUNS in thought", x.goes(41, 0), 8);
        Check.due("SUNSET is as it was", x.look(5), 40);
    }

    private static void nothingStays() {
        LastWordHill x = withOne("says 1000;");
        x.set(4, 0, 99);
        x.act(1, 0, 3);
        x.minutes(2);
        Edge.sentence(14, "IN THOUGHT (nothing of it stays; no DRAWS");
        String before = Seen.all(x);
        x.goes(60, 0);
        x.keeps(0);
        x.keeps(1);
        x.earliest(0);
        Check.same("it stays as it was", Seen.all(x), before);
        Check.due("STATE", x.look(9), 1664525 * 1013904223 + 1013904223);
    }

    private static void saysInThought() {
        LastWordHill x = withOne("");
        x.act(1, 0, 0);
        x.set(4, 0, 99);
        x.set(3, 0, 50);
        Edge.sentence(14, "no DRAWS: he says it, if says is 500 at least");
        int[][] rows = {{0, -1, 51}, {499, -1, 51}, {500, 0, 48}, {501, 0, 48}, {1000, 0, 48}};
        for (int[] row : rows) {
            Check.lines(x, 0, "says " + row[0] + ";", 1);
            Check.due("LAST with " + row[0], x.goes(1, 1), row[1]);
            Check.due("BREATH with " + row[0], x.goes(1, 3), row[2]);
        }
    }

    private static void keeps(LastWordHill x, String when, int word, int party) {
        Check.due("keeps(0) " + when, x.keeps(0), word);
        Check.due("keeps(1) " + when, x.keeps(1), party);
    }

    private static void keepsToday() {
        LastWordHill x = withOne("says 0;");
        x.set(5, 0, 10);
        Edge.sentence(15, "KEPT: the WORD that would be kept at the next SUNSET (of today, if it is yet to come)");
        x.set(4, 0, 99);
        x.act(0, 0, 0);
        keeps(x, "in MINUTE 0", 0, 2);
        x.minutes(9);
        keeps(x, "a MINUTE ahead of it", 0, 2);
        x.minutes(1);
        keeps(x, "in the MINUTE of SUNSET", 0, 2);
        x.act(0, 0, 19);
        keeps(x, "shouted in it", 19, 2);
        x.minutes(1);
        Check.due("LAST is that still", x.look(2), 19);
        keeps(x, "behind it", -1, -1);
        x.set(5, 0, 11);
        keeps(x, "put to now", 19, 2);
        x.set(5, 0, 59);
        keeps(x, "put to the last MINUTE", 19, 2);
        x.minutes(48);
        Check.due("MINUTE", x.look(6), 59);
        keeps(x, "in the last MINUTE", 19, 2);
        x.set(5, 0, 58);
        keeps(x, "behind it", -1, -1);
    }

    private static void keepsTomorrow() {
        LastWordHill x = withOne("climbs 10;says 1000;");
        x.set(5, 0, 10);
        x.minutes(11);
        x.act(1, 0, 7);
        Edge.sentence(15, "the WORD that would be kept at the next SUNSET");
        Check.lines(x, 2, "from 1 set 11;", 1);
        keeps(x, "up in the tenth MINUTE, heard in the eleventh", 7, 2);
        Check.lines(x, 2, "from 1 set 10;", 1);
        keeps(x, "up too late", -1, -1);
        Check.lines(x, 2, "from 1 set 59;", 1);
        keeps(x, "in the last MINUTE of tomorrow", 7, 2);
        Check.lines(x, 2, "", 0);
        keeps(x, "no line for tomorrow", -1, -1);
        Check.due("DAY is as it was", x.look(7), 0);
    }

    /** A STATE whose first DRAW is low, and one whose first DRAW is high: neither is asked. */
    private static void keepsWithoutDraws() {
        LastWordHill x = withOne("says 499;tires 0;");
        x.act(1, 0, 3);
        x.set(4, 0, 99);
        Edge.sentence(15, "no DRAWS: he says it, if says is 500 at least). GOES for n (1 .. 60) MINUTES");
        for (int state = 0; state < 20; state++) {
            x.state(state * 100003);
            Check.lines(x, 0, "says 499;tires 0;", 2);
            keeps(x, "with 499", -1, -1);
            Check.lines(x, 0, "says 500;tires 0;", 2);
            keeps(x, "with 500", 3, 2);
            Check.due("STATE", x.look(9), state * 100003);
        }
        Check.due("THE BOOK", x.look(8), 0);
    }

    private static void keepsParty() {
        LastWordHill x = withOne("says 1000;");
        x.person(0, 1, 0);
        x.person(0, 1, 3);
        Edge.sentence(15, "whose PARTY said it");
        for (int who = 0; who < 3; who++) {
            x.set(4, who, 99);
        }
        x.act(0, 1, 4);
        keeps(x, "of PARTY 0", 4, 0);
        x.act(0, 2, 4);
        keeps(x, "of PARTY 3", 4, 3);
        x.act(1, 0, 5);
        keeps(x, "of PARTY 2", 5, 2);
        x.act(1, 2, 6);
        keeps(x, "of several in a MINUTE the last", 6, 3);
        Edge.sentence(15, "KEPT what 0 the WORD (NONE), 1 the PARTY (NONE). NONE - 1 for another what.");
        keeps(new LastWordHill(), "of nobody", -1, -1);
        for (int what : new int[] {-1, 2, LOW, HIGH}) {
            Check.due("keeps(" + what + ")", x.keeps(what), -2);
        }
    }

    private static void earliest() {
        LastWordHill x = withOne("climbs 10;tires 1;says 1000;");
        Edge.sentence(16, "EARLIEST; NONE, too, if there is none such.");
        for (int who : new int[] {-1, 1, 10, LOW, HIGH}) {
            Check.due("earliest(" + who + ")", x.earliest(who), -1);
        }
        Edge.sentence(16, "(no end of day; GOING or not, at the top: 0)");
        Check.due("not GOING", x.earliest(0), 10);
        x.set(4, 0, 99);
        Check.due("at the top", x.earliest(0), 0);
        x.act(1, 0, 3);
        Check.due("at the top and GOING", x.earliest(0), 0);
        x.set(4, 0, 98);
        Check.due("98", x.earliest(0), 1);
        x.set(4, 0, 0);
        Check.due("GOING", x.earliest(0), 10);
        x.set(5, 0, 10);
        x.minutes(8);
        x.set(4, 0, 0);
        Check.due("SUNSET comes ahead", x.earliest(0), 10);
        x.minutes(50);
        x.set(4, 0, 0);
        Check.due("the end of the day comes ahead", x.earliest(0), 10);
        Edge.sentence(16, "by climbs, tires and rest alone");
        x.set(3, 0, 0);
        x.set(4, 0, 98);
        Check.due("a rest first", x.earliest(0), 2);
        x.set(4, 0, 89);
        x.set(3, 0, 1);
        Check.due("one step is enough", x.earliest(0), 1);
        x.set(4, 0, 88);
        Check.due("a rest between two", x.earliest(0), 3);
        Check.lines(x, 0, "climbs 10+word;", 1);
        x.set(4, 0, 0);
        x.set(3, 0, 99);
        Check.due("by his WORD 3", withWord(x, 3), 8);
        Check.due("by no WORD", withWord(x, -1), 10);
    }

    private static void ifHeGoesAtOnce() {
        LastWordHill x = withOne("climbs 20;tires 0;");
        Edge.sentence(16, "EARLIEST of a PERSON: the MINUTES from now until he is at the top, if he goes at once");
        Check.due("nobody told him to go", x.earliest(0), 5);
        Check.due("he does not go by that", x.of(0, 5), 0);
        Check.lines(x, 1, "on 0 person 0 with 3 at 30;", 1);
        Check.due("a later line of CLIMBS is not waited for", x.earliest(0), 5);
        x.minutes(45);
        Check.due("behind SUNSET", x.earliest(0), 5);
        x.set(4, 0, 79);
        Check.due("from 79", x.earliest(0), 1);
        x.set(4, 0, 78);
        Check.due("from 78", x.earliest(0), 2);
    }

    private static int withWord(LastWordHill x, int word) {
        x.act(2, 0, 0);
        if (word >= 0) {
            x.act(1, 0, word);
        }
        return x.earliest(0);
    }

    /** Some MINUTES go by for nothing, then 99 steps with a rest between each two of the last 98: those and 196. */
    private static void notByTwoHundred() {
        LastWordHill x = withOne("");
        Edge.sentence(16, "behind how many (NONE: not by 200)");
        int[] want = {199, 200, -1, -1};
        for (int idle = 3; idle <= 6; idle++) {
            Check.lines(x, 0, "climbs 0 when height=0 and breath>" + (99 - idle) + ";climbs 1;tires 1 when height=0;tires 99;", 4);
            Check.due("behind " + (idle + 196), x.earliest(0), want[idle - 3]);
        }
        Check.lines(x, 0, "climbs 0;", 1);
        Check.due("never", x.earliest(0), -1);
        Check.lines(x, 0, "climbs 99;", 1);
        Check.due("at once", x.earliest(0), 1);
    }

    private static void fitsBounds() {
        LastWordHill x = new LastWordHill();
        Check.lines(x, 3, "word 0 answers 0;word 19 answers 9;", 2);
        Edge.sentence(17, "What 0 FITS of WORD v");
        Check.due("fits(0, 0)", x.fits(0, 0), 1);
        Check.due("fits(1, 0)", x.fits(1, 0), 0);
        Check.due("fits(19, 0)", x.fits(19, 0), 512);
        for (int v : new int[] {-1, 20, 1023, LOW, HIGH}) {
            Check.due("fits(" + v + ", 0)", x.fits(v, 0), -1);
        }
        Edge.sentence(17, "NONE if one can't be, or another what.");
        for (int what = 1; what <= 3; what++) {
            for (int v : new int[] {-1, 1024, LOW, HIGH}) {
                Check.due("fits(" + v + ", " + what + ")", x.fits(v, what), -1);
            }
        }
        for (int what : new int[] {-1, 4, LOW, HIGH}) {
            Check.due("fits(1, " + what + ")", x.fits(1, what), -1);
        }
    }

    private static void fitsSet() {
        LastWordHill x = new LastWordHill();
        Edge.sentence(17, "FITS of a WORD: which QUESTIONS it answers (a set)");
        for (int word = 0; word < 20; word++) {
            Check.due("without SUITS", x.fits(word, 0), 0);
        }
        Check.lines(x, 3, "word 7 answers 9 8 7 6 5 4 3 2 1 0;word 8 answers 0;word 9 answers 9;", 3);
        Check.due("all", x.fits(7, 0), 1023);
        Check.due("the first", x.fits(8, 0), 1);
        Check.due("the last", x.fits(9, 0), 512);
        Check.due("none", x.fits(10, 0), 0);
        Edge.sentence(17, "of a set v of QUESTIONS: 1 BEST, 2 COVER how many, 3 the set.");
        int[][] asked = {{0, 0, 0, 0}, {1, 7, 1, 1 << 7}, {512, 7, 1, 1 << 7}, {1023, 7, 1, 1 << 7}};
        for (int[] row : asked) {
            for (int what = 1; what <= 3; what++) {
                Check.due("fits(" + row[0] + ", " + what + ")", x.fits(row[0], what), row[what]);
            }
        }
    }

    private static void best() {
        LastWordHill x = new LastWordHill();
        Edge.sentence(17, "BEST: the WORD that answers most of a set of QUESTIONS (of several the least)");
        Check.due("without SUITS", x.fits(1023, 1), 0);
        Check.lines(x, 3, "word 19 answers 0 1 2 9;word 4 answers 0 1;word 5 answers 2 9;word 6 answers 3;", 4);
        Check.due("of none", x.fits(0, 1), 0);
        Check.due("of what none answers", x.fits(1 << 8, 1), 0);
        Check.due("of all", x.fits(1023, 1), 19);
        Check.due("of 0 and 1 the least of two", x.fits(3, 1), 4);
        Check.due("of 9 the least of two", x.fits(512, 1), 5);
        Check.due("of 0 and 2", x.fits(5, 1), 19);
        Check.due("of 3", x.fits(8, 1), 6);
        for (int word = 0; word < 20; word++) {
            Check.lines(x, 3, "word " + word + " answers 4;", 1);
            Check.due("WORD " + word + " alone", x.fits(16, 1), word);
        }
    }

    private static void cover(LastWordHill x, int questions, int howMany, int words) {
        Check.due("fits(" + questions + ", 2)", x.fits(questions, 2), howMany);
        Check.due("fits(" + questions + ", 3)", x.fits(questions, 3), words);
    }

    private static void cover() {
        LastWordHill x = new LastWordHill();
        Edge.sentence(17, "COVER: the fewest WORDS that answer all of a set: how many; "
            + "the least set (of 20 bits; NONE: they can't)");
        cover(x, 0, 0, 0);
        cover(x, 1, -1, -1);
        cover(x, 1023, -1, -1);
        Check.lines(x, 3, "word 10 answers 0 1 2 3;word 2 answers 0 1 4;word 3 answers 2 3 5;word 19 answers 4 5;"
            + "word 18 answers 9;word 17 answers 9;", 6);
        cover(x, 0, 0, 0);
        cover(x, 63, 2, 1 << 2 | 1 << 3);
        cover(x, 15, 1, 1 << 10);
        cover(x, 48, 1, 1 << 19);
        cover(x, 512, 1, 1 << 17);
        cover(x, 63 + 512, 3, 1 << 2 | 1 << 3 | 1 << 17);
        cover(x, 64, -1, -1);
        cover(x, 63 + 64, -1, -1);
        StringBuilder each = new StringBuilder();
        for (int i = 0; i < 10; i++) {
            each.append("word ").append(19 - i).append(" answers ").append(i).append(';');
        }
        Check.lines(x, 3, each.toString(), 10);
        cover(x, 1023, 10, 1023 << 10);
        cover(x, 1, 1, 1 << 19);
        for (int word = 0; word < 20; word++) {
            Check.lines(x, 3, "word " + word + " answers 4;", 1);
            cover(x, 16, 1, 1 << word);
        }
        Check.lines(x, 3, "word 0 answers 0;word 1 answers 1;word 2 answers 2;word 19 answers 0 1 2;", 4);
        cover(x, 7, 1, 1 << 19);
        Check.lines(x, 3, "word 19 answers 0 1;word 18 answers 2;word 0 answers 0;word 1 answers 1;word 2 answers 2;", 5);
        cover(x, 7, 2, 1 << 2 | 1 << 19);
        Check.lines(x, 3, "word 19 answers 0 1;word 3 answers 0;word 2 answers 1;word 18 answers 1 0;", 4);
        cover(x, 3, 1, 1 << 18);
        Check.lines(x, 3, "word 0 answers 0;word 19 answers 1 2;word 5 answers 0 1;word 6 answers 2;", 4);
        cover(x, 7, 2, 1 << 5 | 1 << 6);
    }

    private static void answer() {
        LastWordHill x = new LastWordHill();
        Edge.sentence(18, "TOLD (question NONE: nothing is then): how many; NONE if one can't be, or there are ten.");
        for (int question : new int[] {-2, 10, LOW, HIGH}) {
            Check.due("answer(" + question + ", true)", x.answer(question, true), -1);
            Check.due("answer(" + question + ", false)", x.answer(question, false), -1);
        }
        Check.due("nothing was told", x.could(0), ALL_WORDS);
        Check.due("nothing is then", x.answer(-1, true), 0);
        Check.due("answer(0, false)", x.answer(0, false), 1);
        Check.due("answer(9, false)", x.answer(9, false), 2);
        for (int i = 3; i <= 10; i++) {
            Check.due("answer(9, false)", x.answer(9, false), i);
        }
        String before = Seen.all(x);
        Check.due("the eleventh", x.answer(0, true), -1);
        Check.same("it stays as it was", Seen.all(x), before);
        Check.due("it would have left none", x.could(0), ALL_WORDS);
        Check.due("nothing is then", x.answer(-1, false), 0);
        Check.due("answer(0, true)", x.answer(0, true), 1);
        Check.due("none could", x.could(0), 0);
        Check.due("the latest is no more than the first", x.answer(-1, false), 0);
        Check.due("all could again", x.could(0), ALL_WORDS);
    }

    private static void upToTenTold() {
        LastWordHill x = new LastWordHill();
        Check.lines(x, 3, "word 4 answers 0 1 2 3 4 5 6 7 8 9;word 5 answers 0 1 2 3 4 5 6 7 8;", 2);
        Edge.sentence(18, "TOLD, up to 10 told: a QUESTION was answered rightly or not.");
        for (int question = 0; question < 9; question++) {
            Check.due("answer(" + question + ", true)", x.answer(question, true), question + 1);
        }
        Check.due("by nine of them", x.could(0), 1 << 4 | 1 << 5);
        Check.due("answer(9, true)", x.answer(9, true), 10);
        Check.due("the tenth counts, too", x.could(0), 1 << 4);
        Check.due("answer(9, false)", x.answer(9, false), -1);
        Check.due("the eleventh does not", x.could(0), 1 << 4);
    }

    private static void could() {
        LastWordHill x = new LastWordHill();
        Check.lines(x, 3, "word 0 answers 0 1;word 19 answers 0;", 2);
        Edge.sentence(19, "COULD: all WORDS (and wind: bit 20) by which all told were so: a set");
        Check.due("nothing was told", x.could(0), ALL_WORDS);
        x.answer(0, true);
        Check.due("0 rightly", x.could(0), 1 | 1 << 19);
        x.answer(1, false);
        Check.due("and 1 not", x.could(0), 1 << 19);
        x.answer(0, false);
        Check.due("both rightly and not", x.could(0), 0);
        x.answer(-1, true);
        x.answer(0, false);
        Check.due("0 not: wind, too", x.could(0), ALL_WORDS - 1 - (1 << 19));
        Check.lines(x, 3, "word 0 answers 1;", 1);
        Check.due("by SUITS as they are now", x.could(0), ALL_WORDS);
    }

    private static void next() {
        LastWordHill x = new LastWordHill();
        Edge.sentence(19, "NEXT: the QUESTION by which the greater part of these (answered rightly or not) is least; "
            + "of several the least.");
        Check.due("all alike", x.could(1), 0);
        Check.lines(x, 3, "word 0 answers 7 9;word 1 answers 7 8 9;word 2 answers 9;", 3);
        Check.due("18 are the greater part with 9", x.could(1), 9);
        x.answer(9, true);
        Check.due("2 of 3 with 7 and with 8", x.could(1), 7);
        Check.lines(x, 3, "word 0 answers 7 9;word 1 answers 7 8 9;word 2 answers 7 9;word 3 answers 8 9;", 4);
        Check.due("2 of 4 with 8", x.could(1), 8);
        Edge.sentence(19, "COULD (what 0), NEXT (1; NONE: fewer than two could). NONE for another what.");
        x.answer(7, false);
        Check.due("one could", x.could(0), 8);
        Check.due("one could", x.could(1), -1);
        x.answer(7, true);
        Check.due("none could", x.could(0), 0);
        Check.due("none could", x.could(1), -1);
        x.answer(-1, true);
        x.answer(9, true);
        Check.lines(x, 3, "word 0 answers 7 9;word 19 answers 9;", 2);
        Check.due("two could", x.could(0), 1 | 1 << 19);
        Check.due("two could", x.could(1), 7);
        for (int what : new int[] {-1, 2, LOW, HIGH}) {
            Check.due("could(" + what + ")", x.could(what), -1);
        }
    }
}
