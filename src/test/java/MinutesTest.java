/** Promises 7 and 13: minutes and book. */
public final class MinutesTest {
    private MinutesTest() {
    }

    public static void main(String[] args) {
        bounds();
        climbing();
        resting();
        speaking();
        oneByOne();
        suns();
        climbs();
        nightfall();
        endOfDay();
        fullBook();
        lastDay();
        Check.finish();
    }

    private static void bounds() {
        LastWordHill x = new LastWordHill();
        Check.due("minutes(0)", x.minutes(0), -1);
        Check.due("minutes(61)", x.minutes(61), -1);
        Check.due("minutes(-1)", x.minutes(-1), -1);
        Check.due("look(6)", x.look(6), 0);
        Check.due("minutes(60)", x.minutes(60), 0);
        Check.due("look(6)", x.look(6), 0);
        Check.due("look(7)", x.look(7), 1);
        Check.due("minutes(1)", x.minutes(1), 0);
        Check.due("look(6)", x.look(6), 1);
        Check.due("only the sunset is in the book", x.look(8), 1);
        Check.bookLine(x, 0, 0, 40, 2, -1, -1);
        Check.due("book(1, 0)", x.book(1, 0), -2);
        Check.due("book(-1, 0)", x.book(-1, 0), -2);
        Check.due("book(0, 5)", x.book(0, 5), -2);
        Check.due("book(0, -1)", x.book(0, -1), -2);
    }

    private static void climbing() {
        LastWordHill x = new LastWordHill();
        x.person(0, 9, 0);
        x.person(0, 1, 0);
        Check.lines(x, 0, "climbs 40;tires height+1;", 2);
        x.act(1, 0, 1);
        x.minutes(1);
        Check.due("tires is asked ahead", x.of(0, 3), 98);
        Check.due("AT", x.of(0, 4), 40);
        x.minutes(1);
        Check.due("BREATH", x.of(0, 3), 57);
        Check.due("AT", x.of(0, 4), 80);
        x.minutes(1);
        Check.due("BREATH is 0 at least", x.of(0, 3), 0);
        Check.due("AT is 99 at most", x.of(0, 4), 99);
        Check.due("who does not go stays", x.of(1, 4), 0);
        Check.due("no draw yet", x.look(9), 0);
    }

    private static void resting() {
        LastWordHill x = new LastWordHill();
        x.person(0, 2, 0);
        x.act(1, 0, 1);
        x.set(3, 0, 1);
        x.minutes(1);
        Check.due("BREATH", x.of(0, 3), 0);
        Check.due("AT", x.of(0, 4), 5);
        x.minutes(1);
        Check.due("he rests", x.of(0, 3), 9);
        Check.due("AT", x.of(0, 4), 5);
        x.minutes(1);
        Check.due("BREATH", x.of(0, 3), 7);
        Check.due("AT", x.of(0, 4), 10);
    }

    /** The first draws of 1000 from STATE 0 are 563, 577, 494, 947. */
    private static void speaking() {
        LastWordHill x = new LastWordHill();
        x.person(0, 2, 0);
        Check.lines(x, 0, "says 564 when breath>95;says 577;tires 8;", 3);
        x.act(1, 0, 6);
        x.set(4, 0, 99);
        Check.due("563 is below 564", x.minutes(1), 1);
        Check.due("LAST", x.look(2), 6);
        Check.due("SAID", x.of(0, 7), 1);
        Check.due("BREATH", x.of(0, 3), 91);
        Check.due("STATE", x.look(9), 1013904223);
        Check.due("577 is not below 577", x.minutes(1), 0);
        Check.due("BREATH is one more", x.of(0, 3), 92);
        Check.due("494 is below 577", x.minutes(1), 1);
        Check.due("BREATH", x.of(0, 3), 84);
        Check.due("SAID", x.of(0, 7), 2);
        x.set(3, 0, 99);
        Check.lines(x, 0, "says 0;", 1);
        x.minutes(1);
        Check.due("BREATH is 99 at most", x.of(0, 3), 99);
        x.set(3, 0, 1);
        Check.lines(x, 0, "says 1000;", 1);
        Check.due("always below 1000", x.minutes(3), 3);
        Check.due("BREATH is 0 at least", x.of(0, 3), 0);
        Check.due("lines", x.look(8), 5);
        Check.bookLine(x, 1, 0, 2, 0, 0, 6);
        Check.bookLine(x, 4, 0, 6, 0, 0, 6);
    }

    /** Who comes to the top is one of the others for those behind him in the same MINUTE, and says nothing in it. */
    private static void oneByOne() {
        LastWordHill x = new LastWordHill();
        x.person(0, 1, 0);
        x.person(0, 1, 0);
        x.person(0, 1, 0);
        Check.lines(x, 0, "climbs 10+others;says 1000;", 2);
        x.set(4, 1, 95);
        for (int who = 0; who < 3; who++) {
            x.act(1, who, who);
        }
        Check.due("minutes(1)", x.minutes(1), 0);
        Check.due("AT ahead of him", x.of(0, 4), 10);
        Check.due("AT behind him", x.of(2, 4), 11);
        Check.due("minutes(1)", x.minutes(1), 1);
        Check.due("LAST", x.look(2), 1);
        Check.due("AT", x.of(0, 4), 21);
        x.set(4, 0, 99);
        x.set(4, 2, 99);
        Check.due("all say it", x.minutes(1), 3);
        Check.due("LAST", x.look(2), 2);
    }

    private static void suns() {
        LastWordHill x = new LastWordHill();
        x.minutes(60);
        Check.lines(x, 2, "from 1 set 30;from 3 set 12;from 1 set 20;from 0 set 50;", 4);
        Check.due("SUNSET as it was", x.look(5), 40);
        x.minutes(1);
        Check.due("the last line of the DAY", x.look(5), 20);
        x.set(5, 0, 33);
        x.minutes(30);
        Check.due("only in MINUTE 0", x.look(5), 33);
        x.minutes(60);
        Check.due("no line for DAY 2", x.look(5), 33);
        x.minutes(30);
        Check.due("SUNSET of DAY 3", x.look(5), 12);
        x.minutes(60);
        Check.due("it stays", x.look(5), 12);
    }

    private static void climbs() {
        LastWordHill x = new LastWordHill();
        x.person(0, 1, 0);
        x.person(0, 2, 0);
        Check.lines(x, 1, "on 0 person 1 with 5 at 2;on 0 person 1 with 6 at 2;on 1 person 0 with 7 at 59;", 3);
        x.minutes(2);
        Check.due("GOING", x.of(1, 5), 0);
        x.minutes(1);
        Check.due("the first line lets him go", x.of(1, 6), 5);
        Check.due("he climbs at once", x.of(1, 4), 5);
        x.minutes(60);
        Check.due("not again on another DAY", x.of(1, 5), 0);
        x.minutes(57);
        Check.due("behind the SUNSET", x.of(0, 5), 1);
        Check.due("he waits", x.of(0, 4), 0);
        x.minutes(1);
        Check.due("he climbs in the morning", x.of(0, 4), 4);
    }

    private static void nightfall() {
        LastWordHill x = new LastWordHill();
        x.person(0, 1, 0);
        x.person(0, 1, 0);
        x.set(5, 0, 10);
        x.set(4, 0, 99);
        x.set(4, 1, 50);
        x.set(3, 1, 7);
        x.act(0, 0, 9);
        x.act(1, 0, 4);
        Check.lines(x, 0, "says 0;", 1);
        x.minutes(10);
        Check.due("WORD ahead of it", x.look(1), -1);
        Check.due("AT ahead of it", x.of(0, 4), 99);
        x.minutes(1);
        Check.due("WORD", x.look(1), 9);
        Check.due("LAST is of the day", x.look(2), 9);
        for (int who = 0; who < 2; who++) {
            Check.due("AT", x.of(who, 4), 0);
            Check.due("GOING", x.of(who, 5), 0);
            Check.due("WORD", x.of(who, 6), -1);
            Check.due("BREATH", x.of(who, 3), 99);
        }
        Check.bookLine(x, 1, 0, 10, 2, -1, 9);
        x.act(1, 0, 4);
        x.minutes(1);
        Check.due("none climbs behind it", x.of(0, 4), 0);
        x.minutes(60);
        Check.due("nothing was said: wind", x.look(1), -1);
        Check.bookLine(x, 2, 1, 10, 2, -1, -1);
    }

    private static void endOfDay() {
        LastWordHill x = new LastWordHill();
        x.person(0, 1, 0);
        x.set(4, 0, 99);
        x.act(0, 0, 9);
        x.minutes(59);
        Check.due("MINUTE", x.look(6), 59);
        Check.due("LAST", x.look(2), 9);
        x.minutes(1);
        Check.due("MINUTE", x.look(6), 0);
        Check.due("DAY", x.look(7), 1);
        Check.due("LAST", x.look(2), -1);
        Check.due("WORD", x.look(1), 9);
        x.set(5, 0, 59);
        x.set(4, 0, 99);
        x.act(0, 0, 8);
        x.minutes(60);
        Check.due("kept in the last MINUTE", x.look(1), 8);
        Check.due("LAST", x.look(2), -1);
    }

    private static void fullBook() {
        LastWordHill x = new LastWordHill();
        for (int i = 0; i < 149; i++) {
            x.ask(i % 10);
        }
        Check.due("lines", x.look(8), 149);
        x.ask(3);
        x.ask(4);
        Check.due("no more than 150", x.look(8), 150);
        Check.due("ASKED", x.look(3), 151);
        Check.bookLine(x, 149, 0, 0, 4, 3, -1);
        Check.due("book(150, 0)", x.book(150, 0), -2);
        x.undo();
        Check.due("lines", x.look(8), 150);
        x.undo();
        Check.due("lines", x.look(8), 149);
        Check.due("book(149, 3)", x.book(149, 3), -2);
    }

    private static void lastDay() {
        LastWordHill x = new LastWordHill();
        int wrong = 0;
        for (int day = 0; day < 9998; day++) {
            wrong += x.minutes(60) == 0 ? 0 : 1;
        }
        Check.due("days that went by", wrong, 0);
        Check.due("DAY", x.look(7), 9998);
        Check.due("DAY and 1 is above 9998", x.minutes(1), -1);
        Check.due("MINUTE", x.look(6), 0);
    }
}
