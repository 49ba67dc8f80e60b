/** The boundaries that the document names for promises 1 to 6 and 12, sentence by sentence. */
public final class EdgesOfPeopleTest {
    private static final int LOW = Edge.LOW;
    private static final int HIGH = Edge.HIGH;

    private EdgesOfPeopleTest() {
    }

    public static void main(String[] args) {
        newObject();
        newThoughts();
        lastPromisedCall();
        state();
        person();
        tenPeople();
        setOfPerson();
        setOfHill();
        shout();
        shoutBounds();
        letGo();
        callBack();
        ask();
        wordsAndQuestions();
        ofWhat();
        of();
        ofWithoutLaw();
        heldLaw();
        firstLine();
        left();
        others();
        Edge.finish(1, 2, 3, 4, 5, 6, 12);
    }

    private static LastWordHill withOne() {
        LastWordHill x = new LastWordHill();
        x.person(5, 6, 2);
        return x;
    }

    private static void looks(LastWordHill x, int what, int want) {
        Check.due("look(" + what + ")", x.look(what), want);
    }

    private static void newObject() {
        LastWordHill x = new LastWordHill();
        Edge.sentence(1, "Wind.");
        looks(x, 1, -1);
        Check.due("ask(0)", new LastWordHill().ask(0), 0);
        Edge.sentence(1, "`NONE = -1`: None.");
        Check.due("NONE", LastWordHill.NONE, -1);
        Edge.sentence(1, "STATE of draws (an int, 0 at first)");
        looks(x, 9, 0);
        Edge.sentence(1, "WORD that the hill keeps: one or none (wind; none at first)");
        looks(x, 1, -1);
        Check.due("keeps(0)", x.keeps(0), -1);
        Edge.sentence(1, "ASKED, RIGHT (how often, ints, 0 at first)");
        looks(x, 3, 0);
        looks(x, 4, 0);
        Edge.sentence(1, "SUNSET 10 .. 59 (40 at first), MINUTE 0 .. 59 of the day (0 at first), DAY 0 .. 9999 (0 at first)");
        looks(x, 5, 40);
        looks(x, 6, 0);
        looks(x, 7, 0);
        Edge.sentence(1, "TEXTS (empty at first)");
        for (int what = 10; what <= 13; what++) {
            looks(x, what, 0);
        }
        Edge.sentence(1, "PEOPLE 0 .. 9 as they come");
        looks(x, 0, 0);
        Check.due("of(0, 0)", x.of(0, 0), -2);
        Edge.sentence(1, "THE BOOK (150 lines; no more then)");
        looks(x, 8, 0);
        Check.due("book(0, 0)", x.book(0, 0), -2);
        Edge.sentence(1, "LAST is that (of the day)");
        looks(x, 2, -1);
    }

    private static void newThoughts() {
        LastWordHill x = new LastWordHill();
        Edge.sentence(1, "words as rows of up to 5 letters 0 .. 9 told for WORDS 0 .. 7 (empty at first)");
        for (int a = 0; a < 8; a++) {
            Check.due("over(" + a + ", NONE)", x.over(a, -1), 0);
        }
        Edge.sentence(1, "(a, b 0 .. 999, m 1 .. 1000; 1, 0, 1000 at first)");
        Check.due("thing(999, 0)", x.thing(999, 0), 1);
        Check.due("thing(999, 1)", x.thing(999, 1), 0);
        Edge.sentence(1, "of each PARTY a told number 0 .. 99 (0 at first)");
        x.person(0, 1, 0);
        x.person(0, 1, 3);
        x.set(4, 0, 99);
        x.set(4, 1, 99);
        Check.due("worths()", x.worths(), 0);
    }

    /** The first call is the coming of the PERSON. */
    private static void lastPromisedCall() {
        Edge.sentence(1, "An object is used for at most 512 calls after it has been made");
        LastWordHill x = withOne();
        for (int call = 2; call <= 511; call++) {
            x.ask(call % 10);
        }
        Check.due("the 512th call: ASKED", x.look(3), 510);
        x = withOne();
        int days = 0;
        for (int call = 2; call <= 511; call++) {
            days += x.minutes(60) == 0 ? 1 : 0;
        }
        Check.due("days", days, 510);
        Check.due("the 512th call: DAY", x.look(7), 510);
    }

    private static void state() {
        LastWordHill x = new LastWordHill();
        Edge.sentence(2, "STATE is told: what it was.");
        int before = 0;
        for (int v : new int[] {LOW, HIGH, -1, 1, 0}) {
            Check.due("state(" + v + ")", x.state(v), before);
            looks(x, 9, v);
            before = v;
        }
    }

    private static void person() {
        Edge.sentence(3, "VOICE 0 .. 9, LEGS 1 .. 9, PARTY 0 .. 3");
        LastWordHill x = new LastWordHill();
        String before = Seen.all(x);
        int[][] wrong = {{-1, 1, 0}, {10, 1, 0}, {LOW, 1, 0}, {HIGH, 1, 0}, {0, 0, 0}, {0, -1, 0}, {0, 10, 0}, {0, LOW, 0},
            {0, HIGH, 0}, {0, 1, -1}, {0, 1, 4}, {0, 1, LOW}, {0, 1, HIGH}};
        for (int[] w : wrong) {
            Check.due("person(" + w[0] + ", " + w[1] + ", " + w[2] + ")", x.person(w[0], w[1], w[2]), -1);
        }
        Check.same("nobody came", Seen.all(x), before);
        Check.due("person(0, 1, 0)", x.person(0, 1, 0), 0);
        Check.due("person(9, 9, 3)", x.person(9, 9, 3), 1);
        int[][] told = {{0, 1, 0}, {9, 9, 3}};
        for (int who = 0; who < 2; who++) {
            for (int what = 0; what < 3; what++) {
                Check.due("of(" + who + ", " + what + ")", x.of(who, what), told[who][what]);
            }
        }
        Edge.sentence(3, "BREATH 0 .. 99 (99 at first), AT a HEIGHT 0 .. 99 (0, the foot, at first; 99 the top), "
            + "GOING 0, 1 (0 at first) with a WORD, SAID (how often, an int, 0 at first)");
        int[] first = {99, 0, 0, -1, 0};
        for (int what = 3; what < 8; what++) {
            Check.due("of(1, " + what + ")", x.of(1, what), first[what - 3]);
        }
    }

    private static void tenPeople() {
        LastWordHill x = new LastWordHill();
        Edge.sentence(3, "A PERSON: the number; NONE if one can't be, or there are ten.");
        for (int i = 0; i < 10; i++) {
            Check.due("person " + i, x.person(i, 1 + i % 9, i % 4), i);
            looks(x, 0, i + 1);
        }
        x.ask(0);
        String before = Seen.all(x);
        Check.due("the eleventh", x.person(0, 1, 0), -1);
        Check.same("it stays as it was", Seen.all(x), before);
        Check.due("of(10, 0)", x.of(10, 0), -2);
    }

    private static void setOfPerson() {
        LastWordHill x = withOne();
        Edge.sentence(4, "What 0 VOICE, 1 LEGS, 2 PARTY, 3 BREATH, 4 AT of PERSON who");
        int[][] bounds = {{0, 9}, {1, 9}, {0, 3}, {0, 99}, {0, 99}};
        for (int what = 0; what < 5; what++) {
            int low = bounds[what][0];
            int high = bounds[what][1];
            for (int v : new int[] {high, low}) {
                Check.due("set(" + what + ", 0, " + v + ")", x.set(what, 0, v), true);
                Check.due("of(0, " + what + ")", x.of(0, what), v);
            }
            for (int v : new int[] {low - 1, high + 1, LOW, HIGH}) {
                Check.due("set(" + what + ", 0, " + v + ")", x.set(what, 0, v), false);
                Check.due("of(0, " + what + ")", x.of(0, what), low);
            }
            for (int who : new int[] {-1, 1, 9, 10, LOW, HIGH}) {
                Check.due("set(" + what + ", " + who + ", " + low + ")", x.set(what, who, low), false);
            }
        }
        Edge.sentence(4, "true; false if one can't be, or another what.");
        x.act(1, 0, 4);
        String before = Seen.all(x);
        for (int what : new int[] {-1, 7, 8, LOW, HIGH}) {
            Check.due("set(" + what + ", 0, 1)", x.set(what, 0, 1), false);
            Check.due("set(" + what + ", 0, 10)", x.set(what, 0, 10), false);
        }
        Check.due("set(1, 0, 0)", x.set(1, 0, 0), false);
        Check.same("it stays as it was, and can be undone", Seen.all(x), before);
    }

    private static void setOfHill() {
        LastWordHill x = new LastWordHill();
        Edge.sentence(4, "5 SUNSET, 6 the WORD kept (NONE: none; who not asked)");
        int[] nobody = {0, -1, 10, LOW, HIGH};
        for (int who : nobody) {
            for (int v : new int[] {59, 10}) {
                Check.due("set(5, " + who + ", " + v + ")", x.set(5, who, v), true);
                looks(x, 5, v);
            }
            for (int v : new int[] {9, 60, -1, LOW, HIGH}) {
                Check.due("set(5, " + who + ", " + v + ")", x.set(5, who, v), false);
                looks(x, 5, 10);
            }
            for (int v : new int[] {0, -1, 19}) {
                Check.due("set(6, " + who + ", " + v + ")", x.set(6, who, v), true);
                looks(x, 1, v);
            }
            for (int v : new int[] {20, -2, LOW, HIGH}) {
                Check.due("set(6, " + who + ", " + v + ")", x.set(6, who, v), false);
                looks(x, 1, 19);
            }
        }
    }

    private static void refused(LastWordHill x, int what, int who, int v) {
        String before = Seen.all(x);
        Check.due("act(" + what + ", " + who + ", " + v + ")", x.act(what, who, v), false);
        Check.same("it stays as it was", Seen.all(x), before);
    }

    private static void done(LastWordHill x, int what, int who, int v) {
        Check.due("act(" + what + ", " + who + ", " + v + ")", x.act(what, who, v), true);
    }

    private static void shout() {
        LastWordHill x = withOne();
        x.set(4, 0, 98);
        Edge.sentence(5, "to SHOUT (a PERSON at the top, MINUTE not above SUNSET: LAST is a WORD told, SAID one more)");
        refused(x, 0, 0, 3);
        x.set(4, 0, 99);
        for (int v : new int[] {-1, 20, LOW, HIGH}) {
            refused(x, 0, 0, v);
        }
        for (int who : new int[] {-1, 1, 10, LOW, HIGH}) {
            refused(x, 0, who, 3);
        }
        done(x, 0, 0, 0);
        looks(x, 2, 0);
        done(x, 0, 0, 19);
        looks(x, 2, 19);
        Check.due("SAID", x.of(0, 7), 2);
        Check.due("not GOING still", x.of(0, 5), 0);
        Edge.sentence(5, "false if it can't be (not at the top, behind SUNSET; GOING already; not GOING), or another what.");
        x.set(5, 0, 10);
        x.minutes(9);
        done(x, 0, 0, 1);
        x.minutes(1);
        looks(x, 6, 10);
        done(x, 0, 0, 2);
        x.minutes(1);
        x.set(4, 0, 99);
        refused(x, 0, 0, 3);
        x.set(5, 0, 11);
        done(x, 0, 0, 4);
        x.set(5, 0, 10);
        refused(x, 0, 0, 5);
        looks(x, 2, 4);
        for (int what : new int[] {-1, 3, 4, LOW, HIGH}) {
            refused(x, what, 0, 3);
        }
    }

    private static void shoutBounds() {
        LastWordHill x = withOne();
        x.set(4, 0, 99);
        Edge.sentence(5, "What 0 to SHOUT WORD v");
        for (int v = 0; v < 20; v++) {
            done(x, 0, 0, v);
            looks(x, 2, v);
        }
        refused(x, 0, 0, 20);
        refused(x, 0, 0, -1);
        looks(x, 2, 19);
    }

    private static void letGo() {
        LastWordHill x = withOne();
        Edge.sentence(5, "1 to LET PERSON who GO with it");
        for (int v : new int[] {-1, 20, LOW, HIGH}) {
            refused(x, 1, 0, v);
        }
        for (int who : new int[] {-1, 1, 10, LOW, HIGH}) {
            refused(x, 1, who, 3);
        }
        for (int v : new int[] {0, 19}) {
            done(x, 1, 0, v);
            Check.due("GOING", x.of(0, 5), 1);
            Check.due("WORD", x.of(0, 6), v);
            refused(x, 1, 0, 5);
            Check.due("who goes already keeps his WORD", x.of(0, 6), v);
            x.act(2, 0, 0);
        }
        Edge.sentence(5, "to LET one GO with a WORD");
        x.set(5, 0, 10);
        x.minutes(30);
        x.set(4, 0, 99);
        done(x, 1, 0, 7);
        Check.due("by night, where he is", x.of(0, 4), 99);
    }

    private static void callBack() {
        LastWordHill x = withOne();
        Edge.sentence(5, "2 to CALL him back (v not asked)");
        refused(x, 2, 0, 0);
        for (int v : new int[] {-1, 0, 20, LOW, HIGH}) {
            x.act(1, 0, 3);
            done(x, 2, 0, v);
            Check.due("GOING", x.of(0, 5), 0);
            refused(x, 2, 0, v);
        }
        for (int who : new int[] {-1, 1, 10, LOW, HIGH}) {
            refused(x, 2, who, 0);
        }
        Edge.sentence(5, "to CALL one back (at the foot, not GOING)");
        x.act(1, 0, 3);
        x.set(4, 0, 99);
        x.set(3, 0, 17);
        done(x, 2, 0, 0);
        Check.due("AT", x.of(0, 4), 0);
        Check.due("WORD", x.of(0, 6), -1);
        Check.due("BREATH", x.of(0, 3), 17);
        x.set(4, 0, 99);
        refused(x, 2, 0, 0);
    }

    private static void ask() {
        LastWordHill x = withOne();
        Check.tell(x, 3, "word 0 answers 0 9;word 19 answers 9;");
        Edge.sentence(6, "To ASK: 1 right, 0 wrong; NONE if there is none such.");
        String before = Seen.all(x);
        for (int question : new int[] {-1, 10, LOW, HIGH}) {
            Check.due("ask(" + question + ")", x.ask(question), -1);
        }
        Check.same("it stays as it was", Seen.all(x), before);
        Edge.sentence(6, "(ASKED one more; RIGHT one more, if the WORD the hill keeps answers it by SUITS)");
        Check.due("wind is not WORD 0", x.ask(0), 0);
        looks(x, 3, 1);
        looks(x, 4, 0);
        x.set(6, 0, 0);
        Check.due("WORD 0, ask(0)", x.ask(0), 1);
        Check.due("WORD 0, ask(9)", x.ask(9), 1);
        Check.due("WORD 0, ask(1)", x.ask(1), 0);
        x.set(6, 0, 19);
        Check.due("WORD 19, ask(9)", x.ask(9), 1);
        Check.due("WORD 19, ask(0)", x.ask(0), 0);
        looks(x, 3, 6);
        looks(x, 4, 3);
        x.set(4, 0, 99);
        x.act(0, 0, 0);
        Check.due("LAST is not kept yet", x.ask(0), 0);
    }

    /** Wherever a WORD or a QUESTION is told or asked for, the first and the last are there, and none beyond them. */
    private static void wordsAndQuestions() {
        Edge.sentence(6, "WORDS 0 .. 19. QUESTIONS 0 .. 9.");
        LastWordHill x = withOne();
        x.set(4, 0, 99);
        int[] words = {-2, 0, 19, 20};
        for (int v : words) {
            boolean there = v == 0 || v == 19;
            Check.due("set(6, 0, " + v + ")", x.set(6, 0, v), there);
            Check.due("act(0, 0, " + v + ")", x.act(0, 0, v), there);
            Check.due("act(1, 0, " + v + ")", x.act(1, 0, v), there);
            Check.due("act(2, 0, " + v + ")", x.act(2, 0, v), there);
            x.set(4, 0, 99);
            Check.due("fits(" + v + ", 0)", x.fits(v, 0), there ? 0 : -1);
            Check.due("step(0, " + v + ", 1)", x.step(0, v, 1) > 0, there);
            Check.due("down(0, 1, " + v + ")", x.down(0, 1, v), there ? 1 : -1);
        }
        int[] questions = {-2, 0, 9, 10};
        for (int question : questions) {
            boolean there = question == 0 || question == 9;
            Check.due("ask(" + question + ")", x.ask(question), there ? 0 : -1);
            Check.due("answer(" + question + ", false)", x.answer(question, false) > 0, there);
        }
        Check.lines(x, 3, "word 0 answers 0 9;word 19 answers 0 9;", 2);
        Check.due("the greatest set of QUESTIONS", x.fits(1023, 1), 0);
        Check.due("a set with QUESTION 10", x.fits(1024, 1), -1);
    }

    private static void ofWhat() {
        LastWordHill x = withOne();
        x.person(1, 2, 3);
        Edge.sentence(12, "Of a PERSON what 0 VOICE, 1 LEGS, 2 PARTY, 3 BREATH, 4 AT, 5 GOING, 6 his WORD");
        x.act(1, 1, 19);
        x.minutes(2);
        int[] want = {1, 2, 3, 95, 10, 1, 19};
        for (int what = 0; what < want.length; what++) {
            Check.due("of(1, " + what + ")", x.of(1, what), want[what]);
        }
        Edge.sentence(12, ", 7 SAID, 8 climbs, 9 tires, 10 says");
        x.set(4, 1, 99);
        x.act(0, 1, 5);
        x.act(0, 1, 5);
        int[] more = {2, 5, 2, 300 + 50 + 95};
        for (int what = 7; what <= 10; what++) {
            Check.due("of(1, " + what + ")", x.of(1, what), more[what - 7]);
        }
        Edge.sentence(12, "voice, legs, party, breath: his; height: where he is; word: his WORD");
        String[] names = {"voice", "legs", "party", "breath", "height", "word"};
        int[] meant = {1, 2, 3, 95, 99, 19};
        for (int i = 0; i < names.length; i++) {
            Check.lines(x, 0, "says " + names[i] + ";", 1);
            Check.due(names[i], x.of(1, 10), meant[i]);
        }
    }

    private static void of() {
        LastWordHill x = withOne();
        Edge.sentence(12, "NONE - 1 if there is none such, or another what.");
        for (int who : new int[] {-1, 1, 9, 10, LOW, HIGH}) {
            for (int what = 0; what <= 10; what++) {
                Check.due("of(" + who + ", " + what + ")", x.of(who, what), -2);
            }
        }
        for (int what : new int[] {-1, 11, LOW, HIGH}) {
            Check.due("of(0, " + what + ")", x.of(0, what), -2);
        }
        Edge.sentence(12, "6 his WORD (not GOING: NONE)");
        Check.due("not GOING", x.of(0, 6), -1);
        x.act(1, 0, 0);
        Check.due("GOING with 0", x.of(0, 6), 0);
        x.act(2, 0, 0);
        Check.due("called back", x.of(0, 6), -1);
        Edge.sentence(12, "8 climbs, 9 tires, 10 says (not GOING: word 0)");
        Check.lines(x, 0, "says 500+word;tires word;climbs 50+word;", 3);
        Check.due("says", x.of(0, 10), 500);
        Check.due("tires", x.of(0, 9), 0);
        Check.due("climbs", x.of(0, 8), 50);
        x.act(1, 0, 19);
        Check.due("says", x.of(0, 10), 519);
        Check.due("tires", x.of(0, 9), 19);
        Check.due("climbs", x.of(0, 8), 69);
    }

    private static void ofWithoutLaw() {
        LastWordHill x = withOne();
        Edge.sentence(12, "(none: climbs: 3 and legs, tires: 2, says: 300 and 50 times voice and breath)");
        int[][] rows = {{0, 1, 0, 4, 300}, {9, 9, 99, 12, 849}, {9, 1, 0, 4, 750}, {0, 9, 99, 12, 399}};
        for (int[] row : rows) {
            x.set(0, 0, row[0]);
            x.set(1, 0, row[1]);
            x.set(3, 0, row[2]);
            Check.due("climbs", x.of(0, 8), row[3]);
            Check.due("tires", x.of(0, 9), 2);
            Check.due("says", x.of(0, 10), row[4]);
        }
        Check.lines(x, 0, "says 5;", 1);
        Check.due("says has a line", x.of(0, 10), 5);
        Check.due("climbs has none", x.of(0, 8), 12);
        Check.due("tires has none", x.of(0, 9), 2);
    }

    private static void heldLaw() {
        LastWordHill x = withOne();
        Edge.sentence(12, "climbs, tires held to 0 .. 99, says to 0 .. 1000");
        int[][] held = {{0, 0, 0}, {1, 1, 1}, {98, 98, 98}, {99, 99, 99}, {100, 99, 100}, {999, 99, 999}, {1000, 99, 1000},
            {1001, 99, 1000}, {9999, 99, 1000}};
        for (int[] h : held) {
            Check.lines(x, 0, "climbs " + h[0] + ";tires " + h[0] + ";says " + h[0] + ";", 3);
            Check.due("climbs " + h[0], x.of(0, 8), h[1]);
            Check.due("tires " + h[0], x.of(0, 9), h[1]);
            Check.due("says " + h[0], x.of(0, 10), h[2]);
        }
        for (String below : new String[] {"0-1", "0-9999", "9999*9999*30"}) {
            Check.lines(x, 0, "climbs " + below + ";tires " + below + ";says " + below + ";", 3);
            for (int what = 8; what <= 10; what++) {
                Check.due(below + ", of(0, " + what + ")", x.of(0, what), 0);
            }
        }
    }

    private static void firstLine() {
        LastWordHill x = withOne();
        Edge.sentence(12, "E of the first line with that word whose B is so, or that has none");
        Check.lines(x, 0, "climbs 1 when 1=2;climbs 2 when 1=1;climbs 3 when 1=1;climbs 4;", 4);
        Check.due("the second", x.of(0, 8), 2);
        Check.lines(x, 0, "climbs 1 when 1=2;climbs 2;climbs 3 when 1=1;", 3);
        Check.due("the one that has none", x.of(0, 8), 2);
        Check.lines(x, 0, "climbs 1 when 1=2;", 1);
        Check.due("no line", x.of(0, 8), 9);
        Check.lines(x, 0, "tires 1;says 2;climbs 3;", 3);
        Check.due("of that word", x.of(0, 8), 3);
    }

    private static void left() {
        LastWordHill x = withOne();
        Check.lines(x, 0, "says left;", 1);
        Edge.sentence(12, "left: how many MINUTES there are to SUNSET (this one too; 0 behind it)");
        int[] sunsets = {10, 59, 40};
        for (int sunset : sunsets) {
            x.set(5, 0, sunset);
            Check.due("in MINUTE 0 to " + sunset, x.of(0, 10), sunset);
        }
        x.set(5, 0, 10);
        int[] want = {10, 9, 8, 7, 6, 5, 4, 3, 2, 1, 0, 0, 0};
        for (int minute = 0; minute < want.length; minute++) {
            Check.due("in MINUTE " + minute, x.of(0, 10), want[minute]);
            x.minutes(1);
        }
        x.minutes(46);
        looks(x, 6, 59);
        Check.due("in MINUTE 59", x.of(0, 10), 0);
        x.set(5, 0, 59);
        Check.due("in MINUTE 59 at SUNSET", x.of(0, 10), 0);
        x.minutes(1);
        Check.due("in the morning", x.of(0, 10), 59);
        x.set(5, 0, 10);
        x.minutes(11);
        Check.lines(x, 0, "says 5+left;", 1);
        Check.due("behind it not below 0", x.of(0, 10), 5);
    }

    private static void others() {
        LastWordHill x = withOne();
        Check.lines(x, 0, "says others;climbs day;", 2);
        Edge.sentence(12, "others: how many others are at the top; day.");
        Check.due("nobody", x.of(0, 10), 0);
        x.set(4, 0, 99);
        Check.due("he alone", x.of(0, 10), 0);
        for (int who = 1; who < 10; who++) {
            x.person(0, 1, 0);
            x.set(4, who, 98);
            Check.due("98 is not the top", x.of(0, 10), who - 1);
            x.set(4, who, 99);
            Check.due("up with him", x.of(0, 10), who);
        }
        x.set(4, 0, 98);
        Check.due("nine, and he is not up", x.of(0, 10), 9);
        Check.due("day", x.of(0, 8), 0);
        x.minutes(60);
        Check.due("day", x.of(0, 8), 1);
    }
}
