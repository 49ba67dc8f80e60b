/** Promises 36 to 38: undo, image, look. */
public final class PastTest {
    private PastTest() {
    }

    public static void main(String[] args) {
        undoEach();
        sixAreKept();
        forgetting();
        notForgetting();
        imageOfAll();
        imageAndPast();
        Check.finish();
    }

    private static String seen(LastWordHill x) {
        StringBuilder s = new StringBuilder();
        for (int what = 0; what < 14; what++) {
            s.append(x.look(what)).append(' ');
        }
        for (int who = 0; who < x.look(0); who++) {
            for (int what = 0; what < 11; what++) {
                s.append(x.of(who, what)).append(' ');
            }
        }
        for (int i = 0; i < x.look(8); i++) {
            for (int what = 0; what < 5; what++) {
                s.append(x.book(i, what)).append(' ');
            }
        }
        return s.append(x.keeps(0)).append(' ').append(x.keeps(1)).toString();
    }

    private static void goesBack(LastWordHill x, String what, String before) {
        Check.due(what + " changed something", seen(x).equals(before), false);
        Check.due("undo " + what, x.undo(), true);
        Check.due(what + " is undone: " + seen(x) + " was " + before, seen(x).equals(before), true);
    }

    private static LastWordHill busy() {
        LastWordHill x = new LastWordHill();
        x.person(9, 9, 1);
        x.person(5, 5, 2);
        Check.tell(x, 3, "word 3 answers 1;");
        Check.tell(x, 1, "on 0 person 1 with 8 at 3;");
        Check.tell(x, 2, "from 0 set 30;");
        x.set(6, 0, 3);
        x.set(4, 0, 99);
        return x;
    }

    private static void undoEach() {
        LastWordHill x = busy();
        String before = seen(x);
        x.act(0, 0, 5);
        goesBack(x, "SHOUT", before);
        x.act(1, 0, 5);
        goesBack(x, "LETTING GO", before);
        x.ask(1);
        goesBack(x, "ASKING rightly", before);
        x.ask(2);
        goesBack(x, "ASKING wrongly", before);
        x.minutes(1);
        goesBack(x, "the first MINUTE", before);
        x.act(1, 0, 5);
        before = seen(x);
        x.act(2, 0, 0);
        goesBack(x, "CALLING BACK", before);
        x.minutes(3);
        for (int i = 0; i < 56; i++) {
            before = seen(x);
            x.minutes(1);
            goesBack(x, "MINUTE", before);
            x.minutes(1);
        }
        x.minutes(60);
        Check.due("look(14)", x.look(14), 6);
    }

    private static void sixAreKept() {
        LastWordHill x = new LastWordHill();
        Check.due("undo", x.undo(), false);
        for (int i = 1; i <= 8; i++) {
            x.minutes(1);
            Check.due("look(14)", x.look(14), Math.min(i, 6));
        }
        for (int i = 5; i >= 0; i--) {
            Check.due("undo", x.undo(), true);
            Check.due("look(6)", x.look(6), 2 + i);
            Check.due("look(14)", x.look(14), i);
        }
        Check.due("undo", x.undo(), false);
        Check.due("look(6)", x.look(6), 2);
        x.minutes(60);
        x.ask(0);
        Check.due("undo", x.undo(), true);
        Check.due("undo", x.undo(), true);
        Check.due("each MINUTE of a call is undone alone", x.look(6), 1);
        x.ask(0);
        x.ask(1);
        x.undo();
        Check.due("look(14)", x.look(14), 5);
    }

    private static void forgets(LastWordHill x, String what, boolean want) {
        Check.due(what + " forgets", x.look(14), want ? 0 : 1);
        x.undo();
        x.undo();
        x.ask(0);
    }

    private static void forgetting() {
        LastWordHill x = busy();
        x.ask(0);
        x.state(0);
        forgets(x, "state", true);
        x.person(0, 1, 0);
        forgets(x, "person", true);
        for (int what = 0; what < 7; what++) {
            x.set(what, 0, what == 5 ? 20 : 1);
            forgets(x, "set " + what, true);
        }
        Check.tell(x, 1, "");
        forgets(x, "CLIMBS", true);
        Check.tell(x, 2, "");
        forgets(x, "SUNS", true);
        x.image(true);
        forgets(x, "taking THE IMAGE", false);
        x.image(false);
        forgets(x, "going back to THE IMAGE", true);
    }

    private static void notForgetting() {
        LastWordHill x = busy();
        x.ask(0);
        Check.due("no image", x.image(false), false);
        forgets(x, "an image that is not there", false);
        x.person(10, 1, 0);
        forgets(x, "a wrong person", false);
        x.set(0, 0, 10);
        x.set(7, 0, 0);
        forgets(x, "a wrong set", false);
        Check.fault(x, 1, "on", 1, 2);
        Check.fault(x, 2, "from", 1, 4);
        forgets(x, "a FAULT", false);
        Check.tell(x, 0, "climbs 1;");
        forgets(x, "THE LAW", false);
        Check.tell(x, 3, "word 1 answers 1;");
        forgets(x, "SUITS", false);
        x.answer(1, true);
        x.watch(0, 59);
        x.step(0, 0, 1);
        x.spell(0, 1, 1);
        x.speaker(1, 1);
        x.rule(1, 1, 10);
        x.price(1);
        x.worth(0, 1);
        forgets(x, "what is told for thought", false);
        x.act(0, 1, 3);
        x.ask(10);
        x.minutes(0);
        forgets(x, "what can't be done", false);
        Check.due("THE LAW stays with an undo", x.of(0, 8), 1);
        Check.due("the thing, too", x.thing(0, 0), 10);
    }

    private static String thoughts(LastWordHill x) {
        return seen(x) + x.could(0) + " " + x.fits(3, 0) + " " + x.guard(0, -1) + " " + x.down(0, 1, 0) + " "
            + x.over(0, 1) + " " + x.council(0) + " " + x.thing(1, 0) + " " + x.prices(1, 1) + " " + x.worths();
    }

    private static void imageOfAll() {
        LastWordHill x = busy();
        x.set(4, 1, 99);
        x.act(0, 1, 7);
        x.ask(1);
        Check.tell(x, 0, "climbs 7;says 1000;");
        x.answer(1, true);
        x.watch(0, 59);
        x.step(0, 0, 1);
        x.spell(0, 1, 1);
        x.spell(1, 1, 2);
        x.speaker(1, 1);
        x.rule(1, 1, 10);
        x.price(17);
        x.worth(1, 40);
        String before = thoughts(x);
        Check.due("image(true)", x.image(true), true);
        for (int times = 0; times < 2; times++) {
            x.person(1, 1, 1);
            x.set(5, 0, 11);
            x.act(1, 0, 1);
            x.minutes(35);
            x.ask(0);
            Check.tell(x, 0, "");
            Check.tell(x, 1, "");
            Check.tell(x, 2, "");
            Check.tell(x, 3, "");
            x.answer(-1, true);
            x.watch(-1, 0);
            x.step(-1, 0, 0);
            x.spell(1, 0, 0);
            x.speaker(3, 3);
            x.rule(0, 0, 1);
            x.price(-1);
            x.worth(1, 0);
            Check.due("all is changed", thoughts(x).equals(before), false);
            Check.due("image(false)", x.image(false), true);
            Check.due("all is back: " + thoughts(x) + " was " + before, thoughts(x).equals(before), true);
        }
        x.minutes(1);
        String later = thoughts(x);
        x.image(true);
        x.minutes(5);
        x.image(false);
        Check.due("the later image", thoughts(x).equals(later), true);
    }

    private static void imageAndPast() {
        LastWordHill x = busy();
        x.ask(0);
        x.image(true);
        Check.due("look(14)", x.look(14), 1);
        Check.fault(x, 0, "climbs 1;x", 1, 9);
        Check.feed(x, "climbs 33;");
        x.minutes(2);
        x.image(false);
        Check.due("nothing can be undone", x.look(14), 0);
        Check.due("undo", x.undo(), false);
        Check.due("fault(0) stays", x.fault(0), 1);
        Check.due("fault(1) stays", x.fault(1), 9);
        Check.due("the TAPE stays", x.text(0), 1);
        Check.due("climbs", x.of(0, 8), 33);
        Check.due("look(15)", x.look(15), -2);
        Check.due("look(-1)", x.look(-1), -2);
    }
}
