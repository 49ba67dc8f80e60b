import java.util.Random;

/** No call ever throws, whatever its arguments: numbers far off, and runs far longer than promised. */
public final class WildTest {
    private static final int[] WILD = {Integer.MIN_VALUE, Integer.MIN_VALUE + 1, -1000000, -61, -2, -1, 0, 1, 2, 3, 5, 9, 10,
        15, 19, 20, 59, 60, 99, 100, 150, 400, 999, 1000, 1023, 1024, 1 << 20, Integer.MAX_VALUE - 1, Integer.MAX_VALUE};

    private final Random random;
    private final LastWordHill x = new LastWordHill();

    private WildTest(long seed) {
        random = new Random(seed);
    }

    public static void main(String[] args) {
        for (int seed = 0; seed < 200; seed++) {
            WildTest test = new WildTest(seed);
            for (int i = 0; i < 3000; i++) {
                test.call();
            }
            Check.due("ten people at most", test.x.look(0) <= 10, true);
            Check.due("150 lines at most", test.x.look(8) <= 150, true);
        }
        Check.finish();
    }

    private int v() {
        return random.nextInt(3) == 0 ? random.nextInt() : WILD[random.nextInt(WILD.length)];
    }

    private void call() {
        boolean b = random.nextBoolean();
        switch (random.nextInt(38)) {
            case 0 -> x.state(v());
            case 1 -> x.person(v(), v(), v());
            case 2 -> x.set(v(), v(), v());
            case 3 -> x.act(v(), v(), v());
            case 4 -> x.ask(v());
            case 5 -> x.minutes(v());
            case 6 -> x.feed(v(), v(), v(), v(), v());
            case 7 -> x.end(v());
            case 8 -> x.text(v());
            case 9 -> x.fault(v());
            case 10 -> x.of(v(), v());
            case 11 -> x.book(v(), v());
            case 12 -> x.goes(v(), v());
            case 13 -> x.keeps(v());
            case 14 -> x.earliest(v());
            case 15 -> x.fits(v(), v());
            case 16 -> x.answer(v(), b);
            case 17 -> x.could(v());
            case 18 -> x.watch(v(), v());
            case 19 -> x.guard(v(), v());
            case 20 -> x.step(v(), v(), v());
            case 21 -> x.down(v(), v(), v());
            case 22 -> x.spell(v(), v(), v());
            case 23 -> x.over(v(), v());
            case 24 -> x.speaker(v(), v());
            case 25 -> x.council(v());
            case 26 -> x.rule(v(), v(), v());
            case 27 -> x.thing(v(), v());
            case 28 -> x.price(v());
            case 29 -> x.prices(v(), v());
            case 30 -> x.bell(v(), v());
            case 31 -> x.worth(v(), v());
            case 32 -> x.worths();
            case 33 -> x.game(v());
            case 34 -> x.undo();
            case 35 -> x.image(b);
            case 36 -> x.look(v());
            default -> Check.tell(x, random.nextInt(4), b ? "climbs 1 when not (height" : "word 1 answers 0 1 2;");
        }
    }
}
