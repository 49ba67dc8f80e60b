/** Promises 14 to 19: goes, keeps, earliest, fits, answer, could. */
public final class ThoughtTest {
    private ThoughtTest() {
    }

    public static void main(String[] args) {
        goes();
        sayingInThought();
        keeps();
        earliest();
        fits();
        could();
        Check.finish();
    }

    private static void goes() {
        LastWordHill x = new LastWordHill();
        x.person(9, 9, 0);
        x.person(0, 1, 1);
        x.act(1, 0, 3);
        Check.due("goes(8, 2)", x.goes(8, 2), 0);
        Check.due("goes(9, 2)", x.goes(9, 2), 1);
        Check.due("goes(9, 1)", x.goes(9, 1), -1);
        Check.due("goes(9, 3)", x.goes(9, 3), 81 + 99);
        Check.due("goes(10, 1)", x.goes(10, 1), 3);
        Check.due("goes(10, 3)", x.goes(10, 3), 79 + 99);
        Check.due("goes(40, 0)", x.goes(40, 0), -1);
        Check.due("goes(41, 0)", x.goes(41, 0), 3);
        Check.due("goes(41, 2)", x.goes(41, 2), 0);
        Check.due("goes(41, 3)", x.goes(41, 3), 198);
        Check.due("goes(59, 1)", x.goes(59, 1), 3);
        Check.due("goes(60, 1)", x.goes(60, 1), -1);
        Check.due("goes(60, 0)", x.goes(60, 0), 3);
        Check.due("goes(61, 0)", x.goes(61, 0), -2);
        Check.due("goes(0, 0)", x.goes(0, 0), -2);
        Check.due("goes(5, 4)", x.goes(5, 4), -2);
        Check.due("goes(5, -1)", x.goes(5, -1), -2);
        Check.due("nothing of it stays: MINUTE", x.look(6), 0);
        Check.due("nothing of it stays: STATE", x.look(9), 0);
        Check.due("nothing of it stays: BOOK", x.look(8), 0);
        Check.due("nothing of it stays: AT", x.of(0, 4), 0);
        Check.due("it can be undone as before", x.look(14), 1);
    }

    private static void sayingInThought() {
        LastWordHill x = new LastWordHill();
        x.person(9, 9, 0);
        x.act(1, 0, 3);
        x.set(4, 0, 99);
        Check.lines(x, 0, "says 499;", 1);
        Check.due("499 is not said", x.goes(5, 1), -1);
        Check.due("it rests the breath", x.goes(5, 3), 99);
        Check.lines(x, 0, "says 500;", 1);
        Check.due("500 is said", x.goes(1, 1), 3);
        Check.due("it costs breath", x.goes(5, 3), 89);
    }

    private static void keeps() {
        LastWordHill x = new LastWordHill();
        x.person(9, 9, 2);
        x.person(9, 9, 3);
        Check.due("nothing said", x.keeps(0), -1);
        Check.due("nobody said it", x.keeps(1), -1);
        x.act(1, 0, 4);
        Check.due("keeps(0)", x.keeps(0), 4);
        Check.due("keeps(1)", x.keeps(1), 2);
        x.act(1, 1, 5);
        Check.due("the later person has the last word", x.keeps(0), 5);
        Check.due("his party", x.keeps(1), 3);
        Check.due("keeps(2)", x.keeps(2), -2);
        Check.due("keeps(-1)", x.keeps(-1), -2);
        x.minutes(40);
        Check.due("MINUTE", x.look(6), 40);
        x.state(0);
        x.set(4, 0, 99);
        x.act(0, 0, 11);
        Check.due("at the SUNSET it is yet to come", x.keeps(0), 11);
        Check.due("who shouted it", x.keeps(1), 2);
        x.minutes(1);
        Check.due("WORD", x.look(1), 11);
        Check.due("tomorrow nothing is said", x.keeps(0), -1);
        x.act(1, 1, 6);
        Check.due("who goes by night is up tomorrow", x.keeps(0), 6);
        Check.due("his party", x.keeps(1), 3);
        Check.lines(x, 2, "from 1 set 10;", 1);
        Check.due("10 MINUTES are enough to be up, and to say it once", x.keeps(0), 6);
        x.set(1, 1, 7);
        Check.due("he comes to the top in the last MINUTE", x.keeps(0), -1);
        Check.due("keeps(1)", x.keeps(1), -1);
        Check.lines(x, 2, "from 1 set 59;", 1);
        Check.due("a SUNSET in the last MINUTE", x.keeps(0), 6);
        Check.due("his party", x.keeps(1), 3);
    }

    private static void earliest() {
        LastWordHill x = new LastWordHill();
        x.person(0, 9, 0);
        Check.due("not GOING", x.earliest(0), 9);
        x.act(1, 0, 2);
        Check.due("GOING", x.earliest(0), 9);
        x.set(4, 0, 87);
        Check.due("12 below the top", x.earliest(0), 1);
        x.set(4, 0, 86);
        Check.due("13 below the top", x.earliest(0), 2);
        x.set(3, 0, 0);
        Check.due("he rests first", x.earliest(0), 3);
        x.set(3, 0, 1);
        Check.due("he rests between", x.earliest(0), 3);
        x.set(4, 0, 99);
        Check.due("at the top", x.earliest(0), 0);
        Check.due("nobody", x.earliest(1), -1);
        Check.due("nobody", x.earliest(-1), -1);
        x.set(4, 0, 0);
        x.set(3, 0, 99);
        Check.lines(x, 0, "climbs 0;", 1);
        Check.due("never", x.earliest(0), -1);
        Check.lines(x, 0, "climbs 1;tires 0;", 2);
        Check.due("no end of day", x.earliest(0), 99);
        // one step, ten MINUTES' worth of tiring: a rest in each second MINUTE
        Check.lines(x, 0, "climbs 1;tires 99;", 2);
        Check.due("99 steps and 98 rests", x.earliest(0), 197);
        x.set(3, 0, 0);
        Check.due("and one rest more", x.earliest(0), 198);
        Check.lines(x, 0, "climbs 0 when height<2 and breath>9;climbs 1;tires 1;", 3);
        x.set(3, 0, 99);
        Check.due("90 MINUTES for nothing, 99 steps and 10 rests", x.earliest(0), 199);
        Check.lines(x, 0, "climbs 0 when breath>8;climbs 1;tires 1;", 3);
        x.set(4, 0, 4);
        x.set(3, 0, 91);
        Check.due("200 is by 200", x.earliest(0), untilUp(4, 91));
        for (int at = 0; at < 30; at++) {
            x.set(4, 0, at);
            int want = untilUp(at, 91);
            Check.due("from " + at, x.earliest(0), want > 200 ? -1 : want);
        }
    }

    /** As THE LAW told last in earliest() has it. */
    private static int untilUp(int from, int full) {
        int at = from;
        int breath = full;
        int n = 0;
        while (at < 99) {
            if (breath == 0) {
                breath = 9;
            } else {
                at += breath > 8 ? 0 : 1;
                breath--;
            }
            n++;
        }
        return n;
    }

    private static void fits() {
        LastWordHill x = new LastWordHill();
        Check.lines(x, 3, "word 3 answers 0 1 2;word 1 answers 0 1;word 2 answers 2 3;word 19 answers 3 4;word 0 answers 4;", 5);
        Check.due("fits(3, 0)", x.fits(3, 0), 7);
        Check.due("fits(19, 0)", x.fits(19, 0), 24);
        Check.due("fits(-1, 0)", x.fits(-1, 0), -1);
        Check.due("fits(20, 0)", x.fits(20, 0), -1);
        Check.due("BEST of all", x.fits(1023, 1), 3);
        Check.due("BEST of 0 and 1: the least", x.fits(3, 1), 1);
        Check.due("BEST of 3 and 4", x.fits(24, 1), 19);
        Check.due("BEST of none", x.fits(0, 1), 0);
        Check.due("BEST of 9", x.fits(512, 1), 0);
        Check.due("COVER of 0 to 4", x.fits(31, 2), 2);
        Check.due("its set", x.fits(31, 3), 1 << 3 | 1 << 19);
        Check.due("COVER of 0 to 3", x.fits(15, 2), 2);
        Check.due("the least set", x.fits(15, 3), 1 << 1 | 1 << 2);
        Check.due("COVER of 4", x.fits(16, 3), 1);
        Check.due("COVER of 0, 3 and 4: 1 and 19", x.fits(25, 3), 1 << 1 | 1 << 19);
        Check.due("COVER of none", x.fits(0, 2), 0);
        Check.due("its set", x.fits(0, 3), 0);
        Check.due("COVER of 9", x.fits(512, 2), -1);
        Check.due("its set", x.fits(513, 3), -1);
        for (int what = 1; what <= 3; what++) {
            Check.due("no set", x.fits(1024, what), -1);
            Check.due("no set", x.fits(-1, what), -1);
        }
        Check.due("another what", x.fits(0, 4), -1);
        Check.due("another what", x.fits(0, -1), -1);
    }

    private static void could() {
        LastWordHill x = new LastWordHill();
        Check.lines(x, 3, "word 0 answers 5;word 1 answers 5 6;word 2 answers 5 6 7;word 3 answers 5 8;", 4);
        Check.due("answer(5, true)", x.answer(5, true), 1);
        Check.due("could(0)", x.could(0), 15);
        Check.due("NEXT: 6 parts them in halves", x.could(1), 6);
        Check.due("answer(8, false)", x.answer(8, false), 2);
        Check.due("could(0)", x.could(0), 7);
        Check.due("NEXT: 6 and 7 part them alike", x.could(1), 6);
        Check.due("answer(6, false)", x.answer(6, false), 3);
        Check.due("could(0)", x.could(0), 1);
        Check.due("fewer than two", x.could(1), -1);
        Check.due("answer(5, false)", x.answer(5, false), 4);
        Check.due("none could", x.could(0), 0);
        Check.due("could(1)", x.could(1), -1);
        Check.due("answer(10, )", x.answer(10, true), -1);
        Check.due("answer(-2, )", x.answer(-2, true), -1);
        Check.due("answer(NONE, )", x.answer(-1, true), 0);
        Check.due("all could, and wind", x.could(0), (1 << 21) - 1);
        Check.due("NEXT: 5 parts off the most", x.could(1), 5);
        for (int i = 1; i <= 10; i++) {
            Check.due("answer(5, false)", x.answer(5, false), i);
        }
        Check.due("the eleventh", x.answer(5, false), -1);
        Check.due("wind could", x.could(0), (1 << 21) - 16);
        Check.due("NEXT: all alike", x.could(1), 0);
        Check.due("could(2)", x.could(2), -1);
        Check.due("could(-1)", x.could(-1), -1);
    }
}
