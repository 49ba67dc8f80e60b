/** The boundaries that the document names for promises 8 to 11 and for TEXTS, sentence by sentence. */
public final class EdgesOfTextsTest {
    private static final int LOW = Edge.LOW;
    private static final int HIGH = Edge.HIGH;
    private static final int BLANKS = 0x20202020;
    private static final String[] FIRSTS = {"says", "on", "from", "word"};
    private static final String[] LINES = {"says 1;", "on 1 person 0 with 2 at 3;", "from 1 set 10;", "word 1 answers 2;"};

    private EdgesOfTextsTest() {
    }

    public static void main(String[] args) {
        feed();
        highestFirst();
        end();
        noSuchText();
        emptyThen();
        staysAsItWas();
        fault();
        lawGrammar();
        conditionGrammar();
        comparisons();
        closeness();
        sumGrammar();
        climbsBounds();
        sunsBounds();
        suitsBounds();
        sixteenLines();
        letters();
        digits();
        signsAndBlanks();
        ints();
        firstFault();
        theEnd();
        numberFaults();
        openOnes();
        Edge.finish(8, 9, 10, 11);
    }

    private static LastWordHill withOne() {
        LastWordHill x = new LastWordHill();
        x.person(5, 7, 2);
        return x;
    }

    private static int feedBlanks(LastWordHill x) {
        return x.feed(BLANKS, BLANKS, BLANKS, BLANKS, BLANKS);
    }

    private static void feed() {
        LastWordHill x = new LastWordHill();
        Edge.sentence(8, "NONE, and nothing comes, if there would be more than 400.");
        for (int n = 20; n <= 400; n += 20) {
            Check.due("feed", feedBlanks(x), n);
        }
        Check.due("beyond 400", x.feed(0, 0, 0, 0, 0), -1);
        Check.due("length", Seen.tapeLength(x), 400);
        x.end(381);
        Check.due("it would be 401", x.feed(0, 0, 0, 0, 0), -1);
        Check.due("length", Seen.tapeLength(x), 381);
        x.end(380);
        Check.due("it is 400", feedBlanks(x), 400);
        Check.due("nothing but blanks", x.text(0), 0);
        Check.due("empty again", feedBlanks(x), 20);
    }

    private static void highestFirst() {
        LastWordHill x = new LastWordHill();
        Edge.sentence(8, "Twenty bytes come behind the TAPE, of each number the highest first: how many it has.");
        Check.due("feed", x.feed(0x66726f6d, 0x20302073, 0x65742031, 0x373b2020, 0x20202020), 20);
        Check.due("from 0 set 17;", x.text(2), 1);
        x.minutes(1);
        Check.due("SUNSET", x.look(5), 17);
        Check.due("feed", x.feed(BLANKS, BLANKS, BLANKS, BLANKS, 0x202020ff), 20);
        Check.due("255 can't stand", x.text(2), -1);
        Check.due("it came last", x.fault(1), 19);
        Check.due("feed", x.feed(0xff202020, BLANKS, BLANKS, BLANKS, BLANKS), 20);
        Check.due("255 can't stand", x.text(2), -1);
        Check.due("it came first", x.fault(1), 0);
        x.feed(BLANKS, BLANKS, BLANKS, BLANKS, BLANKS);
        x.end(7);
        Check.due("behind the TAPE", x.feed(-1, -1, -1, -1, -1), 27);
        x.text(0);
        Check.due("behind the TAPE", x.fault(1), 7);
    }

    private static void end() {
        LastWordHill x = new LastWordHill();
        Edge.sentence(9, "The TAPE has its first n bytes alone: true; false, changing nothing, if it has not so many, "
            + "or n is below 0.");
        Check.due("end(0) of none", x.end(0), true);
        Check.due("end(1) of none", x.end(1), false);
        feedBlanks(x);
        for (int n : new int[] {21, 400, -1, LOW, HIGH}) {
            Check.due("end(" + n + ")", x.end(n), false);
            Check.due("length", Seen.tapeLength(x), 20);
        }
        Check.due("end(20)", x.end(20), true);
        Check.due("end(19)", x.end(19), true);
        Check.due("end(20)", x.end(20), false);
        Check.due("feed", feedBlanks(x), 39);
        Check.due("end(0)", x.end(0), true);
        Check.due("length", Seen.tapeLength(x), 0);
        Check.feed(x, "says 12345;");
        x.end(9);
        x.text(0);
        Check.due("what is cut off is no part of a NUMBER", x.fault(0), 1);
        Check.due("but the end can't stand", x.fault(1), 9);
    }

    private static void noSuchText() {
        LastWordHill x = withOne();
        Edge.sentence(10, "NONE: no such one (fault() tells 0)");
        for (int k : new int[] {-1, 4, LOW, HIGH}) {
            Check.fault(x, 0, "x", 1, 0);
            String before = Seen.all(x);
            Check.due("text(" + k + ")", x.text(k), -1);
            Check.due("fault(0)", x.fault(0), 0);
            Check.due("fault(1)", x.fault(1), -1);
            Check.fault(x, 0, "x", 1, 0);
            Check.same("no text is another", Seen.all(x), before);
        }
    }

    private static void emptyThen() {
        LastWordHill x = withOne();
        Edge.sentence(10, "The TAPE, empty then, is TEXT k: how many lines.");
        for (int k = 0; k < 4; k++) {
            Check.lines(x, k, LINES[k] + LINES[k], 2);
            Check.due("length", Seen.tapeLength(x), 0);
            Check.due("lines", x.look(10 + k), 2);
            Check.fault(x, k, LINES[k] + "x", 1, LINES[k].length());
            Check.due("length behind a FAULT", Seen.tapeLength(x), 0);
            Check.due("an empty TAPE is a text", x.text(k), 0);
            Check.due("lines", x.look(10 + k), 0);
        }
    }

    private static void staysAsItWas() {
        LastWordHill x = withOne();
        Edge.sentence(10, "or a FAULT (it stays as it was)");
        String[] others = {"says 7;", "on 0 person 0 with 4 at 0;", "from 0 set 13;", "word 1 answers 3;"};
        for (int k = 0; k < 4; k++) {
            Check.lines(x, k, LINES[k], 1);
        }
        String before = Seen.hill(x) + Seen.thought(x);
        for (int k = 0; k < 4; k++) {
            Check.fault(x, k, others[k] + others[k] + ";", 1, 2 * others[k].length());
            Check.fault(x, k, others[k] + FIRSTS[k], 1, others[k].length() + FIRSTS[k].length());
        }
        Check.same("all texts", Seen.hill(x) + Seen.thought(x), before);
    }

    private static void fault() {
        LastWordHill x = withOne();
        Edge.sentence(11, "Of the latest text() what 0 the FAULT (0 without one), 1 its place (NONE).");
        Check.due("no text yet", x.fault(0), 0);
        Check.due("no text yet", x.fault(1), -1);
        Check.fault(x, 0, "climbs 1/0;", 2, 9);
        feedBlanks(x);
        x.end(0);
        x.ask(0);
        Check.due("of the latest text()", x.fault(0), 2);
        Check.due("of the latest text()", x.fault(1), 9);
        Check.lines(x, 3, "", 0);
        Edge.sentence(11, "NONE for another what.");
        Check.tell(x, 0, "climbs 1/0;");
        for (int what : new int[] {-1, 2, LOW, HIGH}) {
            Check.due("fault(" + what + ")", x.fault(what), -1);
        }
    }

    private static void lawGrammar() {
        LastWordHill x = withOne();
        Edge.sentence(10, "0 THE LAW = {(climbs | tires | says) E [when B] ;}");
        Check.lines(x, 0, "", 0);
        Check.lines(x, 0, " \n", 0);
        Check.lines(x, 0, "climbs 1;tires 2;says 3 when 1=1;", 3);
        Check.fault(x, 0, ";", 1, 0);
        Check.fault(x, 0, "climbs 1;;", 1, 9);
        Check.fault(x, 0, "1;", 1, 0);
        Check.fault(x, 0, "when 1=1;", 1, 0);
        Check.fault(x, 0, "climbs climbs 1;", 1, 7);
        Check.fault(x, 0, "climbs 1 tires 2;", 1, 9);
        Check.fault(x, 0, "climbs 1 2;", 1, 9);
        Check.fault(x, 0, "climbs when 1=1;", 1, 7);
        Check.fault(x, 0, "climbs 1 when;", 1, 13);
        Check.fault(x, 0, "climbs 1 when 1=1 when 1=1;", 1, 18);
        Check.fault(x, 0, "climbs 1<2;", 1, 8);
    }

    private static void conditionGrammar() {
        LastWordHill x = withOne();
        Edge.sentence(10, "B = A {or A}. A = C {and C}. C = E (< | = | >) E | not C | ( B ).");
        String[] fine = {"1=1", "1<1 or 1>1", "1=1 and 1=1", "not 1=1", "(1=1)", "not(1=1)", "(not 1=1)or not not 1=1",
            "1=1 or(1=1 and 1=1)", "((1=1)and(1=1))"};
        for (String b : fine) {
            Check.lines(x, 0, "says 1 when " + b + ";", 1);
        }
        String[] wrong = {"1|", "1=|", "1=1|=1", "|=1", "|and 1=1", "|or 1=1", "1=1 and|", "1=1 or|", "1=1 and |or 1=1",
            "not|", "not |and 1=1", "(|)", "(1|)", "(1=1|", "1=1|)", "(1=1)|)", "(1=1 and|)", "(1=1)|=1", "(1+1|)=1", "1=|(1)",
            "1=|not 1=1", "1+|not 1=1", "1=1 |not 1=1", "1=1 |(1=1)", "(1=1)|(1=1)", "(1=1) |1=1", "1=1 |1=1", "1<|=1", "not 1|"};
        for (String b : wrong) {
            int place = b.indexOf('|');
            Check.fault(x, 0, "says 1 when " + b.replace("|", "") + ";", 1, 12 + place);
        }
    }

    private static void so(LastWordHill x, String condition, boolean want) {
        Check.lines(x, 0, "says 1 when " + condition + ";says 0;", 2);
        Check.due(condition, x.of(0, 10), want ? 1 : 0);
    }

    private static void comparisons() {
        LastWordHill x = withOne();
        Edge.sentence(10, "C = E (< | = | >) E | not C");
        int[][] pairs = {{6, 7}, {7, 7}, {8, 7}, {0, 9999}, {9999, 0}, {0, 0}};
        for (int[] p : pairs) {
            so(x, p[0] + "<" + p[1], p[0] < p[1]);
            so(x, p[0] + "=" + p[1], p[0] == p[1]);
            so(x, p[0] + ">" + p[1], p[0] > p[1]);
            so(x, "not " + p[0] + "<" + p[1], p[0] >= p[1]);
            so(x, "not not " + p[0] + "=" + p[1], p[0] == p[1]);
            so(x, "not(" + p[0] + ">" + p[1] + ")", p[0] <= p[1]);
        }
        so(x, "0-1<0", true);
        so(x, "0-1>0", false);
    }

    /** All of a, b, c so or not: "not" binds closer than "and", that closer than "or", brackets closest. */
    private static void closeness() {
        LastWordHill x = withOne();
        Edge.sentence(10, "B = A {or A}. A = C {and C}.");
        for (int bits = 0; bits < 8; bits++) {
            boolean a = (bits & 1) != 0;
            boolean b = (bits & 2) != 0;
            boolean c = (bits & 4) != 0;
            String p = a ? "1=1" : "1=2";
            String q = b ? "1=1" : "1=2";
            String r = c ? "1=1" : "1=2";
            so(x, p + " or " + q, a || b);
            so(x, p + " and " + q, a && b);
            so(x, p + " or " + q + " and " + r, a || b && c);
            so(x, p + " and " + q + " or " + r, a && b || c);
            so(x, "(" + p + " or " + q + ")and " + r, (a || b) && c);
            so(x, p + " and(" + q + " or " + r + ")", a && (b || c));
            so(x, "not " + p + " and " + q + " or " + r, !a && b || c);
            so(x, "not " + p + " or not " + q + " and not " + r, !a || !b && !c);
            so(x, "not(" + p + " or " + q + ")and not not " + r, !(a || b) && c);
        }
    }

    private static void sumGrammar() {
        LastWordHill x = withOne();
        Edge.sentence(10, "E = T {(+ | -) T}. T = U {* U | / NUMBER}. "
            + "U = NUMBER | voice | legs | party | breath | height | word | left | others | day.");
        String[] fine = {"0", "9999", "voice", "legs", "party", "breath", "height", "word", "left", "others", "day",
            "1+2-3", "legs*legs/2*3/4", "1/9999"};
        for (String e : fine) {
            Check.lines(x, 0, "says " + e + ";", 1);
        }
        String[] wrong = {"|-1", "|+1", "|*1", "|/1", "1+|", "1-|", "1*|", "1/|", "1+|+1", "1*|-1", "1/|legs", "1/|-1", "1/|(2)",
            "|(1)", "1+|(1)", "1*|(1)", "1|(1)", "1 |1", "legs |legs", "1 |legs", "1|)", "|when 1=1", "|climbs", "1+|says",
            "|or 1=1", "|not 1=1"};
        for (String e : wrong) {
            int place = e.indexOf('|');
            Check.fault(x, 0, "says " + e.replace("|", "") + ";", 1, 5 + place);
        }
    }

    /** Behind each token of a line the end, the end of the line too early, and the same token again can't stand. */
    private static void outOfOrder(LastWordHill x, int k, String line) {
        String[] tokens = line.split(" ");
        StringBuilder text = new StringBuilder();
        for (int i = 0; i < tokens.length - 1; i++) {
            text.append(tokens[i]).append(' ');
            Check.fault(x, k, text.toString(), 1, text.length());
            if (i < tokens.length - 2) {
                Check.fault(x, k, text + ";", 1, text.length());
                Check.fault(x, k, text + tokens[i], 1, text.length());
            }
        }
    }

    private static void climbsBounds() {
        LastWordHill x = withOne();
        Edge.sentence(10, "1 CLIMBS = {on DAY person PERSON with WORD at MINUTE ;} (DAY 0 .. 999, MINUTE 0 .. 59.)");
        Check.lines(x, 1, "", 0);
        Check.lines(x, 1, "on 0 person 0 with 0 at 0;on 999 person 0 with 19 at 59;", 2);
        Check.fault(x, 1, "on 1000 person 0 with 0 at 0;", 2, 3);
        Check.fault(x, 1, "on 0 person 0 with 20 at 0;", 2, 19);
        Check.fault(x, 1, "on 0 person 0 with 0 at 60;", 2, 24);
        Check.fault(x, 1, "on 0 person 0 with 0 at 9999;", 2, 24);
        outOfOrder(x, 1, "on 0 person 0 with 0 at 0 ;");
        Check.fault(x, 1, "on 0 with 0 person 0 at 0;", 1, 5);
    }

    private static void sunsBounds() {
        LastWordHill x = withOne();
        Edge.sentence(10, "2 SUNS = {from DAY set MINUTE ;} (DAY 0 .. 999, MINUTE 10 .. 59.)");
        Check.lines(x, 2, "", 0);
        Check.lines(x, 2, "from 0 set 10;from 999 set 59;", 2);
        Check.fault(x, 2, "from 1000 set 10;", 2, 5);
        Check.fault(x, 2, "from 0 set 9;", 2, 11);
        Check.fault(x, 2, "from 0 set 0;", 2, 11);
        Check.fault(x, 2, "from 0 set 60;", 2, 11);
        outOfOrder(x, 2, "from 0 set 10 ;");
        Check.fault(x, 2, "set 10 from 0;", 1, 0);
    }

    private static void suitsBounds() {
        LastWordHill x = withOne();
        Edge.sentence(10, "3 SUITS = {word WORD answers QUESTION {QUESTION} ;} "
            + "(of several lines of a WORD all; a QUESTION again does no more.)");
        Check.lines(x, 3, "", 0);
        Check.lines(x, 3, "word 0 answers 0;word 19 answers 9 8 9;word 0 answers 9 0;", 3);
        Check.due("fits(0, 0)", x.fits(0, 0), 1 + 512);
        Check.due("fits(19, 0)", x.fits(19, 0), 256 + 512);
        Check.due("fits(1, 0)", x.fits(1, 0), 0);
        Check.lines(x, 3, "word 5 answers 0 1 2 3 4 5 6 7 8 9 0 1 2 3 4 5 6 7 8 9;", 1);
        Check.due("fits(5, 0)", x.fits(5, 0), 1023);
        Check.due("the text before is no more", x.fits(0, 0), 0);
        Check.fault(x, 3, "word 20 answers 0;", 2, 5);
        Check.fault(x, 3, "word 0 answers 10;", 2, 15);
        Check.fault(x, 3, "word 0 answers 0 10;", 2, 17);
        Check.fault(x, 3, "word 0 answers 0 1 2 9999;", 2, 21);
        outOfOrder(x, 3, "word 0 answers 0 ;");
        Check.fault(x, 3, "word 0 answers 0 word 1 answers 1;", 1, 17);
    }

    private static void sixteenLines() {
        LastWordHill x = withOne();
        Edge.sentence(10, "16 lines of each at most.");
        for (int k = 0; k < 4; k++) {
            String line = LINES[k].replace(" ", "");
            Check.lines(x, k, line.repeat(15), 15);
            Check.lines(x, k, line.repeat(16), 16);
            Check.due("lines", x.look(10 + k), 16);
            Check.lines(x, k, line.repeat(16) + " \n", 16);
        }
        Edge.sentence(10, "3 (at its KEYWORD) the 17th line of a text");
        for (int k = 0; k < 4; k++) {
            String line = LINES[k].replace(" ", "");
            Check.fault(x, k, line.repeat(16) + " " + line, 3, 16 * line.length() + 1);
            Check.fault(x, k, line.repeat(16) + FIRSTS[k], 3, 16 * line.length());
            Check.fault(x, k, line.repeat(16) + "x" + line, 1, 16 * line.length());
            Check.fault(x, k, line.repeat(16) + ";", 1, 16 * line.length());
            Check.fault(x, k, line.repeat(16) + "7", 1, 16 * line.length());
        }
        Check.fault(x, 0, "says1;".repeat(16) + "when", 1, 96);
        Check.fault(x, 0, "says1;".repeat(16) + "climbs 1/0", 3, 96);
        Check.fault(x, 0, "says1;".repeat(15) + "says 1/0;says1;", 2, 97);
    }

    private static void letters() {
        LastWordHill x = withOne();
        Edge.sentence(10, "letters as many as stand together are KEYWORDS (those told here for that text) or none");
        Check.lines(x, 0, "says1when1=1and1=1;", 1);
        Check.fault(x, 0, "say 1;", 1, 0);
        Check.fault(x, 0, "sayss 1;", 1, 0);
        Check.fault(x, 0, "says legslegs;", 1, 5);
        Check.fault(x, 0, "says 1 when1=1andnot 1=1;", 1, 14);
        Check.fault(x, 0, "Says 1;", 1, 0);
        Check.fault(x, 0, "SAYS 1;", 1, 0);
        Check.fault(x, 0, "says Legs;", 1, 5);
        Check.fault(x, 0, "says x;", 1, 5);
        Check.fault(x, 0, "on 0 person 0 with 0 at 0;", 1, 0);
        Check.fault(x, 1, "says 1;", 1, 0);
        Check.fault(x, 1, "on 0 word 0 with 0 at 0;", 1, 5);
        Check.fault(x, 2, "word 0 answers 0;", 1, 0);
        Check.fault(x, 3, "from 0 set 10;", 1, 0);
    }

    private static void digits() {
        LastWordHill x = withOne();
        Edge.sentence(10, "digits as many as stand together NUMBERS of 1 to 4 digits or none");
        Check.lines(x, 0, "says 0;", 1);
        Check.lines(x, 0, "says 0999;", 1);
        Check.due("says", x.of(0, 10), 999);
        Check.fault(x, 0, "says 00000;", 1, 5);
        Check.fault(x, 0, "says 12345;", 1, 5);
        Check.fault(x, 0, "says 1/00000;", 1, 7);
        Check.fault(x, 1, "on 00000 person 0 with 0 at 0;", 1, 3);
        Check.lines(x, 2, "from 0007 set 0010;", 1);
        Check.fault(x, 3, "word 1 answers 00001;", 1, 15);
        Check.fault(x, 3, "word 1 answers 1 12345;", 1, 17);
        Check.fault(x, 0, "says 1 0;", 1, 7);
    }

    private static void signsAndBlanks() {
        LastWordHill x = withOne();
        Edge.sentence(10, "; + - * / ( ) < = > . Blanks (32, 10) between.");
        Check.lines(x, 0, "\n says\n\n1 +\n2 - 1 * 3 / 1 when ( 1 < 2 ) and 1 = 1 and 2 > 1 ; ", 1);
        int[] stands = new int[256];
        for (char c : "0123456789 \n;+-*/<=>".toCharArray()) {
            stands[c] = 1;
        }
        for (int sign = 0; sign < 256; sign++) {
            if (stands[sign] == 0) {
                Check.fault(x, 0, "says 1 " + (char) sign + " ", 1, 7);
            }
        }
        for (int sign : new int[] {0, 9, 11, 12, 13, 31, 33, 46, 44, 127, 128, 160, 255}) {
            Check.fault(x, 2, (char) sign + "from 0 set 10;", 1, 0);
        }
    }

    private static void ints() {
        LastWordHill x = withOne();
        Edge.sentence(10, "Ints, which wrap; / goes towards 0.");
        // 9999 * 9999 * 21 is 2099580021, 9999 * 9999 more of it is beyond 2147483647
        so(x, "9999*9999*21>0", true);
        so(x, "9999*9999*22<0", true);
        so(x, "9999*9999*21+9999*9999<0", true);
        so(x, "0-9999*9999*21-9999*9999>0", true);
        so(x, "9999*9999*22=9999*9999*21+9999*9999", true);
        so(x, "7/2=3", true);
        so(x, "0-7/2=0-3", true);
        // 9999 * 9999 * 22 wraps to -2095407274: its thousandth goes up to -2095407
        so(x, "9999*9999*22/1000=0-2095*1000-407", true);
        so(x, "7*3/2*2=20", true);
        so(x, "9/9999=0", true);
    }

    private static void firstFault() {
        LastWordHill x = withOne();
        Edge.sentence(10, "FAULTS, the first by its place, at one place the least");
        Check.fault(x, 0, "says 1/0 x;", 2, 7);
        Check.fault(x, 0, "says x 1/0;", 1, 5);
        Check.fault(x, 1, "on 1000 person 9 with 20 at 60", 2, 3);
        Check.fault(x, 1, "on 0 person 9 with 20 at 60", 2, 12);
        Check.fault(x, 2, "from 0 set 20 9999;", 1, 14);
        Check.fault(x, 2, "from 0 9999", 1, 7);
        Check.fault(x, 0, "says 1 when ((((((((1 (", 1, 22);
        Check.fault(x, 0, "says 1 when ((((((((1 not", 1, 22);
        Check.fault(x, 0, "says 1 when (((((((( (x", 3, 21);
        Check.fault(x, 0, "says 1/00 when (((((((((1=1;", 2, 7);
        Check.fault(x, 0, "says1;".repeat(16) + "legs", 1, 96);
    }

    private static void theEnd() {
        LastWordHill x = withOne();
        Edge.sentence(10, "1 what can't stand there (the end: the text's length)");
        String[] open = {"says", "says 1", "says 1+", "says 1/", "says 1 when", "says 1 when 1", "says 1 when 1=",
            "says 1 when 1=1", "says 1 when (", "says 1 when (1=1", "says 1 when not", "says 1 when 1=1 and"};
        for (String text : open) {
            Check.fault(x, 0, text, 1, text.length());
            Check.fault(x, 0, text + " \n ", 1, text.length() + 3);
            Check.fault(x, 0, "tires 1;" + text, 1, text.length() + 8);
        }
        String longest = "says 1" + "+1".repeat(197);
        Check.due("as long as a TAPE", longest.length(), 400);
        Check.fault(x, 0, longest, 1, 400);
        Check.lines(x, 0, longest.substring(0, 398) + " ;", 1);
        Check.due("says", x.of(0, 10), 197);
        for (int k = 0; k < 4; k++) {
            Check.fault(x, k, ";".repeat(400), 1, 0);
        }
        Check.fault(x, 1, "on" + "+".repeat(398), 1, 2);
    }

    private static void numberFaults() {
        LastWordHill x = withOne();
        Edge.sentence(10, "2 (at the NUMBER) a part by 0; one beyond its bounds; a PERSON that there is not.");
        Check.fault(x, 0, "says 1/0;", 2, 7);
        Check.fault(x, 0, "says 1/ 0000;", 2, 8);
        Check.fault(x, 0, "says 1 when 1=1/0;", 2, 16);
        Check.lines(x, 0, "says 1/1;", 1);
        Check.fault(x, 1, "on 0 person 1 with 0 at 0;", 2, 12);
        x.person(0, 1, 0);
        Check.lines(x, 1, "on 0 person 1 with 0 at 0;", 1);
        Check.fault(x, 1, "on 0 person 2 with 0 at 0;", 2, 12);
        Check.fault(new LastWordHill(), 1, "on 0 person 0 with 0 at 0;", 2, 12);
        for (int i = 2; i < 10; i++) {
            x.person(0, 1, 0);
        }
        Check.lines(x, 1, "on 0 person 9 with 0 at 0;", 1);
        Check.fault(x, 1, "on 0 person 10 with 0 at 0;", 2, 12);
    }

    private static void openOnes() {
        LastWordHill x = withOne();
        Edge.sentence(10, "(at it) the 9th ( or not that is open");
        Check.lines(x, 0, "says 1 when " + "(".repeat(8) + "1=1" + ")".repeat(8) + ";", 1);
        Check.fault(x, 0, "says 1 when " + "(".repeat(9) + "1=1" + ")".repeat(9) + ";", 3, 20);
        Check.lines(x, 0, "says 1 when " + "not ".repeat(8) + "1=1;", 1);
        Check.fault(x, 0, "says 1 when " + "not ".repeat(9) + "1=1;", 3, 44);
        Check.lines(x, 0, "says 1 when " + "not(".repeat(4) + "1=1" + ")".repeat(4) + ";", 1);
        Check.fault(x, 0, "says 1 when " + "not(".repeat(4) + "not 1=1" + ")".repeat(4) + ";", 3, 28);
        Check.fault(x, 0, "says 1 when " + "not(".repeat(4) + "(1=1)" + ")".repeat(4) + ";", 3, 28);
        Check.lines(x, 0, "says 1 when " + "(".repeat(7) + "not 1=1 and not 1=1 or (1=1) and not 1=1" + ")".repeat(7) + ";", 1);
        Check.fault(x, 0, "says 1 when " + "(".repeat(7) + "not 1=1 and not (1=1", 3, 35);
        Check.lines(x, 0, "says 1 when " + "(1=1)and not 1=1 or ".repeat(12) + "1=1;", 1);
        Check.lines(x, 0, "says 1 when " + "(".repeat(8) + "1=1" + ")".repeat(8) + ";tires 1 when " + "(".repeat(8) + "1=1"
            + ")".repeat(8) + ";", 2);
        for (int last = 1; last <= 2; last++) {
            so(x, "1=2 or 1=1 and(".repeat(8) + "1=2 or 1=1 and " + last + "=1" + ")".repeat(8), last == 1);
            so(x, "1=1 and not(".repeat(4) + "1=2 or 1=1 and " + last + "=1" + ")".repeat(4), last == 1);
        }
    }
}
