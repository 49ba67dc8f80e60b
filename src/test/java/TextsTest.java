/** Promises 8 to 11: feed, end, text, fault; and what THE LAW tells. */
public final class TextsTest {
    private TextsTest() {
    }

    public static void main(String[] args) {
        tape();
        noSuchText();
        tokens();
        lawFaults();
        openOnes();
        manyLines();
        plainFaults();
        staysAsItWas();
        suits();
        values();
        names();
        conditions();
        Check.finish();
    }

    private static LastWordHill oneHill() {
        LastWordHill x = new LastWordHill();
        x.person(5, 7, 2);
        return x;
    }

    private static void tape() {
        LastWordHill x = new LastWordHill();
        Check.due("end(0) of an empty tape", x.end(0), true);
        Check.due("end(1) of an empty tape", x.end(1), false);
        for (int n = 20; n <= 400; n += 20) {
            Check.due("feed", x.feed(0x20202020, 0x20202020, 0x20202020, 0x20202020, 0x20202020), n);
        }
        Check.due("feed the 401st", x.feed(0, 0, 0, 0, 0), -1);
        Check.due("end(401)", x.end(401), false);
        Check.due("end(-1)", x.end(-1), false);
        Check.due("end(381)", x.end(381), true);
        Check.due("feed beyond 400", x.feed(0, 0, 0, 0, 0), -1);
        Check.due("end(380)", x.end(380), true);
        Check.due("feed", x.feed(0, 0, 0, 0, 0), 400);
        Check.due("a zero byte can't stand", x.text(0), -1);
        Check.due("fault(0)", x.fault(0), 1);
        Check.due("fault(1)", x.fault(1), 380);
        // what end() cut off is no part of a token: "climbs|climbs..." and "...100|0"
        Check.due("feed", x.feed(0x636c696d, 0x6273636c, 0x696d6273, 0x31303030, 0x31303030), 20);
        Check.due("end(6)", x.end(6), true);
        Check.due("text(0)", x.text(0), -1);
        Check.due("fault(0)", x.fault(0), 1);
        Check.due("fault(1)", x.fault(1), 6);
        Check.due("feed", x.feed(0x66726f6d, 0x31303030, 0x30303030, 0x30303030, 0x30303030), 20);
        Check.due("end(8)", x.end(8), true);
        Check.due("text(2)", x.text(2), -1);
        Check.due("a number of four digits beyond its bounds", x.fault(0), 2);
        Check.due("fault(1)", x.fault(1), 4);
        // "from 7 set 33;" with the highest byte of each number first
        Check.due("feed", x.feed(0x66726f6d, 0x20372073, 0x65742033, 0x333b0a20, 0x0a0a0a0a), 20);
        Check.due("text(2)", x.text(2), 1);
        Check.due("the tape is empty then", x.end(1), false);
    }

    private static void noSuchText() {
        LastWordHill x = oneHill();
        Check.fault(x, 0, "x", 1, 0);
        Check.due("fault(2)", x.fault(2), -1);
        Check.due("fault(-1)", x.fault(-1), -1);
        Check.feed(x, "climbs 1;");
        Check.due("text(4)", x.text(4), -1);
        Check.due("fault(0)", x.fault(0), 0);
        Check.due("fault(1)", x.fault(1), -1);
        Check.due("the tape is empty then", x.end(1), false);
        Check.due("text(-1)", x.text(-1), -1);
        Check.due("look(10)", x.look(10), 0);
    }

    private static void tokens() {
        LastWordHill x = oneHill();
        Check.lines(x, 0, "climbs1;tires2when 1<2;says 0003\n;", 3);
        Check.due("climbs", x.of(0, 8), 1);
        Check.due("says", x.of(0, 10), 3);
        Check.lines(x, 0, " \n ", 0);
        Check.fault(x, 0, " climb 1;", 1, 1);
        Check.fault(x, 0, "climbss 1;", 1, 0);
        Check.fault(x, 0, "Climbs 1;", 1, 0);
        Check.fault(x, 0, "climbs 00001;", 1, 7);
        Check.fault(x, 0, "climbs\t1;", 1, 6);
        Check.fault(x, 0, "climbs 1 \u00e9;", 1, 9);
        Check.fault(x, 0, "climbs 1 2;", 1, 9);
        Check.fault(x, 1, "climbs 1;", 1, 0);
        Check.fault(x, 0, "(".repeat(400), 1, 0);
        Check.lines(x, 0, "says 1" + "+1".repeat(196) + " ;", 1);
        Check.due("says", x.of(0, 10), 197);
        Check.fault(x, 0, "on 0 person 0 with 0 at 0;", 1, 0);
    }

    private static void lawFaults() {
        LastWordHill x = oneHill();
        Check.fault(x, 0, "climbs", 1, 6);
        Check.fault(x, 0, "climbs  \n", 1, 9);
        Check.fault(x, 0, "climbs 1", 1, 8);
        Check.fault(x, 0, ";", 1, 0);
        Check.fault(x, 0, "climbs 1;;", 1, 9);
        Check.fault(x, 0, "climbs (1);", 1, 7);
        Check.fault(x, 0, "climbs -1;", 1, 7);
        Check.fault(x, 0, "climbs 1+;", 1, 9);
        Check.fault(x, 0, "climbs 1/legs;", 1, 9);
        Check.fault(x, 0, "climbs 1/000;", 2, 9);
        Check.fault(x, 0, "climbs 1*2/0 x;", 2, 11);
        Check.fault(x, 0, "climbs 1 when;", 1, 13);
        Check.fault(x, 0, "climbs 1 when 2;", 1, 15);
        Check.fault(x, 0, "climbs 1 when 1<2<3;", 1, 17);
        Check.fault(x, 0, "climbs 1 when (1);", 1, 16);
        Check.fault(x, 0, "climbs 1 when (1<2;", 1, 18);
        Check.fault(x, 0, "climbs 1 when (1<2 and 2<3;", 1, 26);
        Check.fault(x, 0, "climbs 1 when 1<2);", 1, 17);
        Check.fault(x, 0, "climbs 1 when (1<2));", 1, 19);
        Check.fault(x, 0, "climbs 1 when 1<(2);", 1, 16);
        Check.fault(x, 0, "climbs 1 when 1+not 2<3;", 1, 16);
        Check.fault(x, 0, "climbs 1 when 1<not 2<3;", 1, 16);
        Check.fault(x, 0, "climbs 1 when and 1<2;", 1, 14);
        Check.fault(x, 0, "climbs 1 when 1<2 not 1<2;", 1, 18);
        Check.fault(x, 0, "climbs 1 when 1<2 or;", 1, 20);
        Check.fault(x, 0, "climbs 1 when ();", 1, 15);
        Check.fault(x, 0, "climbs 1 when 1<2 when 1<2;", 1, 18);
    }

    private static void openOnes() {
        LastWordHill x = oneHill();
        Check.lines(x, 0, "climbs 5 when ((((((((1<2))))))));", 1);
        Check.due("climbs", x.of(0, 8), 5);
        Check.fault(x, 0, "climbs 5 when (((((((((1<2)))))))));", 3, 22);
        Check.lines(x, 0, "climbs 6 when not not not not not not not not 1<2;", 1);
        Check.due("climbs", x.of(0, 8), 6);
        Check.fault(x, 0, "climbs 6 when not(not(not(not((1<2);", 3, 30);
        Check.lines(x, 0, "climbs 7 when not(not(not(not(1<2 and 2<3)))) and not(not(not(not 1<1 or 1<1)));", 1);
        // a closed one is open no more, a "not" when its C is over
        Check.lines(x, 0, "says 1 when not 1=1 and not 1=1 and not 1=1 or not 1=1 or not 1=1 or not 1=1 or not 1=1 or not 1=1"
            + " or not 1=1 or not 1=2;", 1);
        Check.due("says", x.of(0, 10), 1);
        Check.lines(x, 0, "says 2 when (1=1) and (1=1) and (1=1) and (1=1) and (1=1) and (1=1) and (1=1) and (1=1) and (1=1) and"
            + " (1=1);", 1);
        Check.due("says", x.of(0, 10), 2);
        Check.fault(x, 0, "says 1 when ((((((((1=1 and x", 1, 28);
        // all that can wait at once
        String deep = "1=2 or 1=1 and(";
        Check.lines(x, 0, "says 3 when " + deep.repeat(8) + "1=2 or 1=1 and 1=1" + ")".repeat(8) + ";", 1);
        Check.due("says", x.of(0, 10), 3);
        Check.lines(x, 0, "says 3 when " + deep.repeat(8) + "1=2 or 1=1 and 1=2" + ")".repeat(8) + ";says 4;", 2);
        Check.due("says", x.of(0, 10), 4);
        Check.lines(x, 0, "says 5 when not(1=2 or 1=1 and not(1=2 or 1=1 and not(1=2 or 1=1 and not(1=2 or 1=1 and 1=2))))"
            + " or 1=2;says 6;", 2);
        Check.due("says", x.of(0, 10), 6);
        Check.fault(x, 0, "says 1 when ((((((((1=1 and not 1=1", 3, 28);
    }

    private static void manyLines() {
        LastWordHill x = oneHill();
        Check.lines(x, 0, "says 1;".repeat(16), 16);
        Check.due("look(10)", x.look(10), 16);
        Check.fault(x, 0, "says 1;".repeat(17), 3, 112);
        Check.fault(x, 0, "says 1;".repeat(16) + "says", 3, 112);
        Check.fault(x, 0, "says 1;".repeat(16) + "voice", 1, 112);
        Check.lines(x, 1, "on1person0with2at3;".repeat(16), 16);
        Check.due("look(11)", x.look(11), 16);
        Check.fault(x, 1, "on1person0with2at3;".repeat(17), 3, 304);
        Check.lines(x, 2, "from 1 set 10;".repeat(16), 16);
        Check.due("look(12)", x.look(12), 16);
        Check.fault(x, 2, "from 1 set 10;".repeat(17), 3, 224);
        Check.lines(x, 3, "word 1 answers 2;".repeat(16), 16);
        Check.due("look(13)", x.look(13), 16);
        Check.fault(x, 3, "word 1 answers 2;".repeat(17), 3, 272);
    }

    private static void plainFaults() {
        LastWordHill x = oneHill();
        Check.lines(x, 1, "on 999 person 0 with 19 at 59;", 1);
        Check.fault(x, 1, "on 1000 person 9 with 20 at 60;", 2, 3);
        Check.fault(x, 1, "on 0 person 1 with 20 at 60;", 2, 12);
        Check.fault(x, 1, "on 0 person 0 with 20 at 60;", 2, 19);
        Check.fault(x, 1, "on 0 person 0 with 0 at 60;", 2, 24);
        Check.fault(x, 1, "on 0 with 0 at 60;", 1, 5);
        Check.fault(x, 1, "on on 0;", 1, 3);
        Check.fault(x, 1, "on 0 person 0 with 0 at 0", 1, 25);
        Check.lines(x, 2, "from 0 set 10;from 999 set 59;", 2);
        Check.fault(x, 2, "from 1000 set 10;", 2, 5);
        Check.fault(x, 2, "from 0 set 9;", 2, 11);
        Check.fault(x, 2, "from 0 set 60;", 2, 11);
        Check.fault(x, 2, "from 0 set + 60;", 1, 11);
        Check.lines(x, 3, "word 19 answers 9;word 0 answers 0;", 2);
        Check.fault(x, 3, "word 20 answers 9;", 2, 5);
        Check.fault(x, 3, "word 0 answers 10;", 2, 15);
        Check.fault(x, 3, "word 0 answers 1 2 10;", 2, 19);
        Check.fault(x, 3, "word 0 answers;", 1, 14);
        Check.fault(x, 3, "word 0 answers 1 2 33333;", 1, 19);
        Check.fault(x, 3, "word 0 answers 1", 1, 16);
        Check.fault(new LastWordHill(), 1, "on 0 person 0 with 0 at 0;", 2, 12);
    }

    private static void staysAsItWas() {
        LastWordHill x = oneHill();
        Check.lines(x, 0, "climbs 11;", 1);
        Check.fault(x, 0, "climbs 12;climbs", 1, 16);
        Check.due("climbs", x.of(0, 8), 11);
        Check.due("look(10)", x.look(10), 1);
        Check.lines(x, 3, "word 1 answers 2;", 1);
        Check.fault(x, 3, "word 1 answers 3;word", 1, 21);
        Check.due("fits(1, 0)", x.fits(1, 0), 4);
        Check.lines(x, 2, "from 0 set 12;", 1);
        Check.fault(x, 2, "from 0 set 13;from", 1, 18);
        Check.lines(x, 1, "on 0 person 0 with 3 at 0;", 1);
        Check.fault(x, 1, "on 0 person 0 with 4 at 0;on", 1, 28);
        x.minutes(1);
        Check.due("SUNSET", x.look(5), 12);
        Check.due("WORD", x.of(0, 6), 3);
        Check.lines(x, 0, "", 0);
        Check.due("climbs", x.of(0, 8), 10);
    }

    private static void suits() {
        LastWordHill x = oneHill();
        Check.lines(x, 3, "word 4 answers 1 1 2;word 5 answers 0;word 4 answers 2 9;", 3);
        Check.due("fits(4, 0)", x.fits(4, 0), 2 + 4 + 512);
        Check.due("fits(5, 0)", x.fits(5, 0), 1);
        Check.lines(x, 3, "word 6 answers 3;", 1);
        Check.due("fits(4, 0)", x.fits(4, 0), 0);
    }

    private static void says(LastWordHill x, String sum, int want) {
        Check.due("'" + sum + "'", Check.tell(x, 0, "says " + sum + ";"), 1);
        Check.due(sum, x.of(0, 10), want);
    }

    private static void values() {
        LastWordHill x = oneHill();
        says(x, "2+3*4", 14);
        says(x, "2*3+4", 10);
        says(x, "20-3-4", 13);
        says(x, "100/7*3", 42);
        says(x, "100*3/7", 42);
        says(x, "1-2*3+40/8*2-1", 4);
        says(x, "1000+3-2*7/2/2", 1000);
        says(x, "900+3-2*7/2/2", 900);
        says(x, "500+0-7/2", 497);
        says(x, "0-7*1/2", 0);
        // Java's own ints wrap as THE LAW's do.
        says(x, "9999*9999*9999*9999/1000/1000", held(9999 * 9999 * 9999 * 9999 / 1000 / 1000));
        says(x, "9999*9999*9999/9999*9999/9999", held(9999 * 9999 * 9999 / 9999 * 9999 / 9999));
        int below = 9999 * 9999 * 30;
        Check.due("30 times 9999 squared wraps to below 0", below < 0, true);
        says(x, "9999*9999*30/9000/9000+100", held(below / 9000 / 9000 + 100));
    }

    private static int held(int v) {
        return Math.max(0, Math.min(1000, v));
    }

    private static void names() {
        LastWordHill x = oneHill();
        x.person(0, 1, 0);
        x.person(0, 1, 0);
        x.set(3, 0, 44);
        x.set(4, 0, 55);
        says(x, "voice", 5);
        says(x, "legs", 7);
        says(x, "party", 2);
        says(x, "breath", 44);
        says(x, "height", 55);
        says(x, "word", 0);
        x.act(1, 0, 13);
        says(x, "word", 13);
        says(x, "left", 40);
        says(x, "others", 0);
        x.set(4, 1, 99);
        says(x, "others", 1);
        x.set(4, 0, 99);
        says(x, "others", 1);
        x.set(4, 2, 99);
        says(x, "others", 2);
        says(x, "day", 0);
        x.minutes(39);
        says(x, "left", 1);
        x.minutes(1);
        says(x, "left", 0);
        x.minutes(1);
        says(x, "left", 0);
        x.minutes(60);
        says(x, "day", 1);
    }

    private static void holds(LastWordHill x, String condition, boolean want) {
        Check.due("'" + condition + "'", Check.tell(x, 0, "says 1when " + condition + ";says 0;"), 2);
        Check.due(condition, x.of(0, 10), want ? 1 : 0);
    }

    private static void conditions() {
        LastWordHill x = oneHill();
        holds(x, "1<2", true);
        holds(x, "2<2", false);
        holds(x, "2=2", true);
        holds(x, "2=1", false);
        holds(x, "3>2", true);
        holds(x, "2>2", false);
        holds(x, "1+1=4/2", true);
        holds(x, "0-1<0", true);
        holds(x, "not 1=1", false);
        holds(x, "not not 1=1", true);
        holds(x, "1=1 or 1=1 and 1=2", true);
        holds(x, "(1=1 or 1=1) and 1=2", false);
        holds(x, "1=2 and 1=1 or 1=1", true);
        holds(x, "1=2 and (1=1 or 1=1)", false);
        holds(x, "not 1=1 or 1=1", true);
        holds(x, "not (1=1 or 1=1)", false);
        holds(x, "not 1=2 and 1=2", false);
        holds(x, "not (1=2 and 1=2)", true);
        holds(x, "not not (not 1=2 and not (1=2 or 1=3)) and 5=5", true);
        holds(x, "((1=1))and((1=2)or(1=1))", true);
        // the first line of that word whose B is so
        Check.lines(x, 0, "tires 9;climbs 1 when legs=8;climbs 2 when legs=7;climbs 3 when legs=7;climbs 4;", 5);
        Check.due("climbs", x.of(0, 8), 2);
        x.set(1, 0, 8);
        Check.due("climbs", x.of(0, 8), 1);
        x.set(1, 0, 1);
        Check.due("climbs", x.of(0, 8), 4);
        Check.lines(x, 0, "climbs 1 when legs=8;", 1);
        Check.due("climbs as without THE LAW", x.of(0, 8), 4);
    }
}
