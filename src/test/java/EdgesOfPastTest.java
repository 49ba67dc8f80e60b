/** The boundaries that the document names for promises 36 to 38, sentence by sentence. */
public final class EdgesOfPastTest {
    private static final int LOW = Edge.LOW;
    private static final int HIGH = Edge.HIGH;

    private EdgesOfPastTest() {
    }

    public static void main(String[] args) {
        nothingToUndo();
        eachGoesBack();
        eachMinuteGoesBack();
        sixAreKept();
        notUndoneYet();
        bookGoesBack();
        forgets();
        doesNotForget();
        refusedDoesNotForget();
        lawStays();
        noImage();
        imageOfAll();
        imageLeavesOut();
        imageOfBook();
        imageMoreThanOnce();
        imageOfFull();
        look();
        lookAtState();
        Edge.finish(36, 37, 38);
    }

    private static LastWordHill busy() {
        LastWordHill x = new LastWordHill();
        x.person(9, 9, 1);
        x.person(5, 5, 2);
        Check.tell(x, 3, "word 3 answers 1;");
        Check.tell(x, 1, "on 0 person 1 with 8 at 0;on 1 person 0 with 4 at 1;");
        Check.tell(x, 2, "from 0 set 30;from 1 set 12;");
        x.set(6, 0, 3);
        x.set(4, 0, 99);
        return x;
    }

    private static void undone(LastWordHill x, String what, String before) {
        Check.due(what + " changed something", Seen.hill(x).equals(before), false);
        Check.due("undo of " + what, x.undo(), true);
        Check.same(what + " is undone", Seen.hill(x), before);
    }

    private static void nothingToUndo() {
        LastWordHill x = new LastWordHill();
        Edge.sentence(36, "UNDO: true; false if there is nothing.");
        String before = Seen.all(x);
        Check.due("undo()", x.undo(), false);
        Check.same("it stays as it was", Seen.all(x), before);
        x.ask(0);
        Check.due("undo()", x.undo(), true);
        Check.due("undo()", x.undo(), false);
        Check.same("it is as it was", Seen.all(x), before);
    }

    private static void eachGoesBack() {
        LastWordHill x = busy();
        Edge.sentence(36, "the latest MINUTE, SHOUT, LETTING GO, CALLING BACK, ASKING not undone yet goes back "
            + "(STATE, THE BOOK, too)");
        String before = Seen.hill(x);
        x.act(0, 0, 5);
        undone(x, "SHOUT", before);
        x.ask(1);
        undone(x, "ASKING and right", before);
        x.ask(2);
        undone(x, "ASKING and wrong", before);
        x.act(1, 0, 5);
        undone(x, "LETTING GO", before);
        x.act(1, 0, 5);
        x.minutes(2);
        before = Seen.hill(x);
        x.act(2, 0, 0);
        undone(x, "CALLING BACK", before);
        before = Seen.hill(x);
        x.minutes(1);
        Check.due("there was a DRAW", x.look(9) != 0, true);
        undone(x, "MINUTE with a DRAW", before);
    }

    /** Two days with their CLIMBS, SUNS and SUNSETS. */
    private static void eachMinuteGoesBack() {
        LastWordHill x = busy();
        Edge.sentence(36, "the latest MINUTE");
        for (int i = 0; i < 120; i++) {
            String before = Seen.hill(x);
            x.minutes(1);
            undone(x, "MINUTE " + i, before);
            x.minutes(1);
        }
        Check.due("DAY", x.look(7), 2);
    }

    private static void sixAreKept() {
        Edge.sentence(36, "6 are kept");
        for (int deeds = 1; deeds <= 20; deeds++) {
            LastWordHill x = new LastWordHill();
            for (int i = 0; i < deeds; i++) {
                x.ask(i % 10);
            }
            int kept = Math.min(6, deeds);
            Check.due("look(14)", x.look(14), kept);
            for (int i = 1; i <= kept; i++) {
                Check.due("undo()", x.undo(), true);
                Check.due("ASKED", x.look(3), deeds - i);
                Check.due("look(14)", x.look(14), kept - i);
            }
            Check.due("no more", x.undo(), false);
            Check.due("ASKED", x.look(3), deeds - kept);
        }
        LastWordHill x = new LastWordHill();
        x.minutes(60);
        Check.due("look(14)", x.look(14), 6);
        for (int minute = 59; minute >= 54; minute--) {
            Check.due("undo()", x.undo(), true);
            Check.due("MINUTE", x.look(6), minute);
        }
        Check.due("no more", x.undo(), false);
    }

    private static void notUndoneYet() {
        LastWordHill x = new LastWordHill();
        Edge.sentence(36, "ASKING not undone yet goes back");
        for (int i = 0; i < 8; i++) {
            x.ask(0);
        }
        x.undo();
        x.undo();
        x.minutes(1);
        Check.due("look(14)", x.look(14), 5);
        x.minutes(3);
        Check.due("look(14)", x.look(14), 6);
        for (int minute = 3; minute >= 0; minute--) {
            x.undo();
            Check.due("MINUTE", x.look(6), minute);
            Check.due("ASKED", x.look(3), 6);
        }
        x.undo();
        Check.due("ASKED", x.look(3), 5);
        x.undo();
        Check.due("ASKED", x.look(3), 4);
        Check.due("no more", x.undo(), false);
    }

    private static void bookGoesBack() {
        LastWordHill x = new LastWordHill();
        Edge.sentence(36, "(STATE, THE BOOK, too)");
        for (int i = 0; i < 148; i++) {
            x.ask(1);
        }
        x.ask(2);
        x.ask(3);
        x.ask(4);
        Check.due("lines", x.look(8), 150);
        x.undo();
        Check.due("the 151st was no line", x.look(8), 150);
        Check.due("book(149, 3)", x.book(149, 3), 3);
        x.undo();
        Check.due("lines", x.look(8), 149);
        Check.due("book(149, 3)", x.book(149, 3), -2);
        x.ask(7);
        Check.due("another in its place", x.book(149, 3), 7);
        x.undo();
        x.undo();
        Check.due("lines", x.look(8), 148);
        Check.due("book(148, 3)", x.book(148, 3), -2);
    }

    private static void kept(LastWordHill x, String what, boolean stays) {
        Check.due("what can be undone behind " + what, x.look(14), stays ? 1 : 0);
        Check.due("undo() behind " + what, x.undo(), stays);
        x.ask(0);
        while (x.look(14) > 1) {
            x.undo();
        }
    }

    private static void forgets() {
        LastWordHill x = busy();
        x.ask(0);
        Edge.sentence(36, "whatever else is told but THE LAW, SUITS and what is told for thought");
        x.state(x.look(9));
        kept(x, "state", false);
        x.person(0, 1, 0);
        kept(x, "person", false);
        for (int what = 0; what <= 4; what++) {
            x.set(what, 0, x.of(0, what));
            kept(x, "set " + what, false);
        }
        x.set(5, 0, x.look(5));
        kept(x, "set 5", false);
        x.set(6, 0, x.look(1));
        kept(x, "set 6", false);
        x.text(1);
        kept(x, "CLIMBS", false);
        x.text(2);
        kept(x, "SUNS", false);
        x.image(true);
        kept(x, "the taking of THE IMAGE", true);
        x.image(true);
        x.image(false);
        kept(x, "the going back to THE IMAGE", false);
    }

    private static void doesNotForget() {
        LastWordHill x = busy();
        x.ask(0);
        Edge.sentence(36, "(TOLD, GUARD, WAYS, OVER, COUNCIL, THING, PRICE, WORTH) (the taking of THE IMAGE does not) forgets them");
        x.answer(1, true);
        kept(x, "TOLD", true);
        x.watch(0, 59);
        kept(x, "GUARD", true);
        x.step(0, 0, 1);
        kept(x, "WAYS", true);
        x.spell(0, 1, 1);
        kept(x, "OVER", true);
        x.speaker(1, 1);
        kept(x, "COUNCIL", true);
        x.rule(1, 1, 10);
        kept(x, "THING", true);
        x.price(1);
        kept(x, "PRICE", true);
        x.worth(0, 1);
        kept(x, "WORTH", true);
        Check.tell(x, 0, "climbs 1;");
        kept(x, "THE LAW", true);
        Check.tell(x, 3, "word 1 answers 1;");
        kept(x, "SUITS", true);
        x.answer(-1, true);
        x.watch(-1, 0);
        x.step(-1, 0, 0);
        x.spell(0, 0, 0);
        x.speaker(-1, 0);
        x.price(-1);
        kept(x, "nothing told for thought", true);
        x.goes(5, 0);
        x.keeps(0);
        x.earliest(0);
        kept(x, "what is asked in thought", true);
    }

    private static void refusedDoesNotForget() {
        LastWordHill x = busy();
        x.ask(0);
        Edge.sentence(36, "whatever else is told");
        x.person(10, 1, 0);
        kept(x, "a PERSON that can't be", true);
        x.set(0, 0, 10);
        x.set(0, 9, 1);
        x.set(5, 0, 9);
        x.set(6, 0, 20);
        x.set(7, 0, 0);
        kept(x, "a set that can't be", true);
        Check.fault(x, 1, "on", 1, 2);
        Check.fault(x, 2, "from", 1, 4);
        x.text(4);
        kept(x, "a text with a FAULT, or no such one", true);
        x.image(false);
        kept(x, "an IMAGE that there is not", true);
        x.act(0, 1, 3);
        x.act(2, 0, 3);
        x.ask(10);
        x.minutes(0);
        kept(x, "what can't be done", true);
        x.feed(0, 0, 0, 0, 0);
        x.end(0);
        kept(x, "what comes on the TAPE", true);
    }

    private static void lawStays() {
        LastWordHill x = busy();
        Edge.sentence(36, "but THE LAW, SUITS and what is told for thought");
        x.minutes(1);
        Check.tell(x, 0, "climbs 17;");
        Check.tell(x, 3, "word 3 answers 2;");
        x.rule(1, 1, 10);
        x.worth(1, 7);
        Check.due("undo()", x.undo(), true);
        Check.due("climbs", x.of(0, 8), 17);
        Check.due("lines of THE LAW", x.look(10), 1);
        Check.due("FITS", x.fits(3, 0), 4);
        Check.due("THING", x.thing(0, 0), 10);
    }

    private static void noImage() {
        LastWordHill x = busy();
        x.ask(0);
        Edge.sentence(37, "THE IMAGE is taken (true), or gone back to (false): true; false if there is none.");
        String before = Seen.all(x);
        Check.due("image(false)", x.image(false), false);
        Check.same("it stays as it was", Seen.all(x), before);
        Check.due("image(true)", x.image(true), true);
        Check.same("it stays as it was", Seen.all(x), before);
        Check.due("image(false)", x.image(false), true);
    }

    private static void tellThoughts(LastWordHill x) {
        x.answer(1, true);
        x.watch(0, 59);
        x.step(0, 0, 1);
        x.spell(0, 1, 1);
        x.spell(1, 1, 2);
        x.speaker(1, 1);
        x.rule(1, 1, 10);
        x.price(17);
        x.worth(1, 40);
    }

    private static void changeAll(LastWordHill x) {
        x.person(1, 1, 1);
        x.state(77);
        x.set(5, 0, 11);
        x.act(1, 0, 1);
        x.minutes(35);
        x.ask(0);
        for (int k = 0; k < 4; k++) {
            x.text(k);
        }
        x.answer(-1, true);
        x.watch(-1, 0);
        x.step(-1, 0, 0);
        x.spell(1, 0, 0);
        x.speaker(3, 3);
        x.rule(0, 0, 1);
        x.price(-1);
        x.worth(1, 0);
    }

    private static String imaged(LastWordHill x) {
        return Seen.hill(x) + Seen.thought(x);
    }

    private static void imageOfAll() {
        LastWordHill x = busy();
        x.set(4, 1, 99);
        x.act(0, 1, 7);
        x.ask(1);
        Check.tell(x, 0, "climbs 7;says 1000;");
        tellThoughts(x);
        Edge.sentence(37, "THE IMAGE: all that is and was told but the TAPE, fault() and what can be undone (nothing then), "
            + "as it was when it was taken");
        String before = imaged(x);
        x.image(true);
        changeAll(x);
        Check.due("all is another", imaged(x).equals(before), false);
        x.image(false);
        Check.same("all is as it was", imaged(x), before);
        Check.due("nothing can be undone then", x.look(14), 0);
        Check.due("undo()", x.undo(), false);
        x.minutes(20);
        LastWordHill y = busy();
        y.set(4, 1, 99);
        y.act(0, 1, 7);
        y.ask(1);
        Check.tell(y, 0, "climbs 7;says 1000;");
        tellThoughts(y);
        y.minutes(20);
        Check.same("and goes on as if nothing had been", imaged(x), imaged(y));
    }

    private static void imageLeavesOut() {
        LastWordHill x = busy();
        Edge.sentence(37, "but the TAPE, fault() and what can be undone (nothing then)");
        Check.feed(x, "climbs 1;");
        x.image(true);
        x.end(0);
        Check.fault(x, 0, "climbs 1/0;", 2, 9);
        Check.feed(x, "climbs 33;");
        x.ask(0);
        x.image(false);
        Check.due("fault(0)", x.fault(0), 2);
        Check.due("fault(1)", x.fault(1), 9);
        Check.due("length", Seen.tapeLength(x), 10);
        Check.due("the TAPE as it is", x.text(0), 1);
        Check.due("climbs", x.of(0, 8), 33);
        x.image(false);
        Check.due("no FAULT since", x.fault(0), 0);
        Check.due("THE LAW as it was", x.look(10), 0);
        Check.due("what can be undone", x.look(14), 0);
    }

    /** UNDO lets other lines come where those of THE IMAGE stood. */
    private static void imageOfBook() {
        LastWordHill x = busy();
        for (int question = 0; question < 6; question++) {
            x.ask(question);
        }
        Edge.sentence(37, "as it was when it was taken; gone back to it may be more than once");
        String before = imaged(x);
        x.image(true);
        for (int times = 0; times < 2; times++) {
            while (x.undo()) {
                Check.due("a line less", x.book(x.look(8), 0), -2);
            }
            for (int i = 0; i < 6; i++) {
                x.ask(9);
            }
            Check.due("other lines in their place", x.book(0, 3), times == 0 ? 9 : 0);
            x.image(false);
            Check.same("THE BOOK, too, is as it was", imaged(x), before);
        }
    }

    private static void imageMoreThanOnce() {
        LastWordHill x = busy();
        tellThoughts(x);
        Edge.sentence(37, "gone back to it may be more than once");
        String before = imaged(x);
        x.image(true);
        for (int times = 0; times < 3; times++) {
            changeAll(x);
            Check.due("image(false)", x.image(false), true);
            Check.same("all is as it was", imaged(x), before);
        }
        Check.due("at once again", x.image(false), true);
        Check.same("all is as it was", imaged(x), before);
        x.minutes(7);
        String later = imaged(x);
        x.image(true);
        changeAll(x);
        x.image(false);
        Check.same("the later one", imaged(x), later);
    }

    /** Ten people, 150 lines, 16 lines of each text, and as much told for thought as can be. */
    private static void imageOfFull() {
        LastWordHill x = new LastWordHill();
        for (int i = 0; i < 10; i++) {
            x.person(i, 1 + i % 9, i % 4);
            x.set(4, i, 99 - i % 2);
        }
        for (int i = 0; i < 150; i++) {
            x.ask(i % 10);
        }
        Check.tell(x, 0, "says 1+word when 1=1;".repeat(16));
        Check.tell(x, 1, "on1person9with2at3;".repeat(16));
        Check.tell(x, 2, "from 1 set 10;".repeat(16));
        Check.tell(x, 3, "word 19 answers 9;".repeat(16));
        for (int i = 0; i < 16; i++) {
            x.answer(i % 10, i == 9);
            x.watch(i * 5, i * 5 + 9);
            x.step(i % 10, i, i / 2);
            x.spell(i % 8, 5, 90000 + i % 8);
            x.speaker(i + 1, 20 - i);
            x.price(i * 7 % 11);
        }
        Edge.sentence(37, "all that is and was told");
        String before = imaged(x);
        x.image(true);
        changeAll(x);
        x.image(false);
        Check.same("all is as it was", imaged(x), before);
    }

    private static void look() {
        LastWordHill x = new LastWordHill();
        Edge.sentence(38, "NONE - 1 for another what.");
        for (int what : new int[] {-1, -2, 15, 16, LOW, HIGH}) {
            Check.due("look(" + what + ")", x.look(what), -2);
        }
        Edge.sentence(38, "What 0 PEOPLE, 1 the WORD kept (NONE), 2 LAST (NONE)");
        Check.due("PEOPLE", x.look(0), 0);
        Check.due("WORD", x.look(1), -1);
        Check.due("LAST", x.look(2), -1);
        for (int i = 0; i < 10; i++) {
            x.person(0, 1, 0);
        }
        x.set(6, 0, 0);
        x.set(4, 0, 99);
        x.act(0, 0, 0);
        Check.due("PEOPLE", x.look(0), 10);
        Check.due("WORD", x.look(1), 0);
        Check.due("LAST", x.look(2), 0);
        Edge.sentence(38, "3 ASKED, 4 RIGHT, 5 SUNSET, 6 MINUTE, 7 DAY, 8 lines of THE BOOK");
        Check.tell(x, 3, "word 0 answers 0;");
        x.ask(0);
        x.ask(1);
        x.ask(10);
        int[] want = {2, 1, 40, 0, 0, 3};
        for (int what = 3; what <= 8; what++) {
            Check.due("look(" + what + ")", x.look(what), want[what - 3]);
        }
        x.minutes(59);
        Check.due("MINUTE", x.look(6), 59);
        x.minutes(1);
        Check.due("MINUTE", x.look(6), 0);
        Check.due("DAY", x.look(7), 1);
        Edge.sentence(38, "10 lines of THE LAW, 11 of CLIMBS, 12 of SUNS, 13 of SUITS, 14 what can be undone");
        Check.tell(x, 0, "says 1;".repeat(16));
        Check.tell(x, 1, "on1person9with2at3;".repeat(15));
        Check.tell(x, 2, "from 1 set 10;".repeat(14));
        Check.tell(x, 3, "word 19 answers 9;".repeat(13));
        for (int what = 10; what <= 13; what++) {
            Check.due("look(" + what + ")", x.look(what), 26 - what);
        }
        Check.due("look(14)", x.look(14), 0);
        x.minutes(60);
        Check.due("look(14)", x.look(14), 6);
    }

    private static void lookAtState() {
        LastWordHill x = new LastWordHill();
        Edge.sentence(38, "9 STATE");
        Check.due("look(9)", x.look(9), 0);
        x.person(0, 1, 0);
        x.set(4, 0, 99);
        x.act(1, 0, 0);
        x.minutes(1);
        Check.due("behind a DRAW", x.look(9), 1013904223);
        x.undo();
        Check.due("undone", x.look(9), 0);
        Edge.sentence(38, "(STATE as it is.)");
        for (int v : new int[] {-1, -2, LOW, HIGH, 0}) {
            x.state(v);
            Check.due("look(9)", x.look(9), v);
            Check.due("look(9) again", x.look(9), v);
        }
    }
}
