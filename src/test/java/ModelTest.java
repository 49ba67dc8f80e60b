import java.util.Random;

/** Random runs of calls, each answer held against the plain model's: all promises, also between each other. */
public final class ModelTest {
    private static final int RUNS = 1500;
    private static final String[] NAMES = {"voice", "legs", "party", "breath", "height", "word", "left", "others", "day"};

    private final Random random;
    private final LastWordHill hill = new LastWordHill();
    private final PlainHill plain = new PlainHill();
    private final String run;

    private ModelTest(long seed) {
        random = new Random(seed);
        run = "seed " + seed + ": ";
    }

    public static void main(String[] args) {
        for (int seed = 1; seed <= RUNS; seed++) {
            new ModelTest(seed).play();
        }
        Check.finish();
    }

    private void play() {
        int leaning = random.nextInt(4);
        for (int i = random.nextInt(8); i >= 0; i--) {
            person();
        }
        for (int calls = 0; calls < 400; calls++) {
            int pick = random.nextInt(100);
            if (pick < 12) {
                compareText();
            } else if (pick < 40 && leaning != 0) {
                deed();
            } else if (pick < 60) {
                thoughtOfDays();
            } else {
                tables();
            }
            if (random.nextInt(10) == 0) {
                compareAll();
            }
        }
        compareAll();
    }

    private int some(int low, int high) {
        return random.nextInt(25) == 0 ? low - 1 + random.nextInt(2) * (high - low + 2) : low + random.nextInt(high - low + 1);
    }

    private void due(String call, long got, long want) {
        Check.due(run + call, got, want);
    }

    private void due(String call, boolean got, boolean want) {
        Check.due(run + call, got, want);
    }

    private void person() {
        int a = some(0, 9);
        int b = some(1, 9);
        int c = some(0, 3);
        due("person " + a + " " + b + " " + c, hill.person(a, b, c), plain.person(a, b, c));
    }

    private void deed() {
        int a = some(0, 2);
        int who = some(0, Math.max(0, plain.look(0) - 1));
        int v = some(0, 19);
        switch (random.nextInt(12)) {
            case 0, 1, 2, 3:
                due("act " + a + " " + who + " " + v, hill.act(a, who, v), plain.act(a, who, v));
                break;
            case 4:
                due("ask " + (v % 12 - 1), hill.ask(v % 12 - 1), plain.ask(v % 12 - 1));
                break;
            case 5:
                int state = random.nextInt();
                due("state " + state, hill.state(state), plain.state(state));
                break;
            case 6:
                if (random.nextInt(3) == 0) {
                    person();
                }
                break;
            case 7:
                int what = some(0, 6);
                int to = what < 3 ? some(0, 9) : what < 5 ? random.nextInt(2) * 99 : what == 5 ? some(10, 59) : some(-1, 19);
                due("set " + what + " " + who + " " + to, hill.set(what, who, to), plain.set(what, who, to));
                break;
            case 8:
                due("undo", hill.undo(), plain.undo());
                break;
            case 9:
                boolean take = random.nextBoolean();
                if (random.nextInt(3) == 0) {
                    due("image " + take, hill.image(take), plain.image(take));
                }
                break;
            default:
                int n = random.nextInt(3) == 0 ? some(1, 60) : some(1, 12);
                due("minutes " + n, hill.minutes(n), plain.minutes(n));
                break;
        }
    }

    private void thoughtOfDays() {
        int n = some(1, 60);
        int who = some(0, Math.max(0, plain.look(0) - 1));
        int what = some(0, 3);
        int set = some(0, 1023);
        switch (random.nextInt(6)) {
            case 0:
                due("goes " + n + " " + what, hill.goes(n, what), plain.goes(n, what));
                break;
            case 1:
                due("keeps " + what, hill.keeps(what), plain.keeps(what));
                break;
            case 2:
                due("earliest " + who, hill.earliest(who), plain.earliest(who));
                break;
            case 3:
                int v = what == 0 ? some(0, 19) : set;
                due("fits " + v + " " + what, hill.fits(v, what), plain.fits(v, what));
                break;
            case 4:
                int question = random.nextInt(6) == 0 ? -1 : some(0, 9);
                boolean right = random.nextInt(3) == 0;
                due("answer " + question, hill.answer(question, right), plain.answer(question, right));
                break;
            default:
                due("could " + (what - 1), hill.could(what - 1), plain.could(what - 1));
                break;
        }
    }

    private void tables() {
        boolean clear = random.nextInt(20) == 0;
        int a = clear ? -1 : some(0, 9);
        int b = some(0, 9);
        int w = random.nextInt(4) == 0 ? -1 : some(0, 3);
        int minute = clear ? -1 : some(0, 59);
        switch (random.nextInt(18)) {
            case 0:
                int to = minute + random.nextInt(30) - 2;
                due("watch " + minute + " " + to, hill.watch(minute, to), plain.watch(minute, to));
                break;
            case 1:
                int x = some(0, 59);
                int d = some(-1, 9);
                due("guard " + x + " " + d, hill.guard(x, d), plain.guard(x, d));
                break;
            case 2:
                due("step " + a + " " + w + " " + b, hill.step(a, w, b), plain.step(a, w, b));
                break;
            case 3:
                due("down " + a + " " + b + " " + w, hill.down(a, b, w), plain.down(a, b, w));
                break;
            case 4:
                int n = random.nextInt(3) == 0 ? some(0, 5) : 2;
                int v = random.nextInt(3) == 0 ? random.nextInt(100000) : random.nextInt(3) * 10 + random.nextInt(3);
                int word = some(0, 7);
                due("spell " + word + " " + n + " " + v, hill.spell(word, n, v), plain.spell(word, n, v));
                break;
            case 5:
                int first = some(0, 7);
                int second = some(-1, 7);
                due("over " + first + " " + second, hill.over(first, second), plain.over(first, second));
                break;
            case 6:
                int minutes = clear ? -1 : some(1, 30);
                int patience = some(0, random.nextBoolean() ? 99 : 20);
                due("speaker " + minutes + " " + patience, hill.speaker(minutes, patience), plain.speaker(minutes, patience));
                break;
            case 7:
                int i = random.nextBoolean() ? 0 : 9 + random.nextInt(8);
                due("council " + i, hill.council(i), plain.council(i));
                break;
            case 8:
                int mod = some(1, random.nextBoolean() ? 1000 : 30);
                int times = some(0, 999);
                int more = some(0, 999);
                due("rule " + times + " " + more + " " + mod, hill.rule(times, more, mod), plain.rule(times, more, mod));
                break;
            case 9:
                int from = some(0, 999);
                due("thing " + from + " " + w, hill.thing(from, w), plain.thing(from, w));
                break;
            case 10, 11:
                int price = clear ? -1 : some(0, random.nextBoolean() ? 999 : 9);
                due("price " + price, hill.price(price), plain.price(price));
                break;
            case 12:
                int k = some(1, 5);
                due("prices " + k + " " + w, hill.prices(k, w), plain.prices(k, w));
                break;
            case 13:
                int voices = some(1, 12);
                int sound = some(0, Math.max(0, voices));
                due("bell " + voices + " " + sound, hill.bell(voices, sound), plain.bell(voices, sound));
                break;
            case 14:
                int party = some(0, 3);
                int worth = some(0, 99);
                due("worth " + party + " " + worth, hill.worth(party, worth), plain.worth(party, worth));
                break;
            case 15:
                due("worths", hill.worths(), plain.worths());
                break;
            default:
                due("game " + w, hill.game(w), plain.game(w));
                break;
        }
    }

    private void compareText() {
        int k = some(0, 3);
        StringBuilder text = new StringBuilder();
        int lines = random.nextInt(12) == 0 ? 14 + random.nextInt(5) : random.nextInt(5);
        for (int i = 0; i < lines; i++) {
            String line = line(k, lines > 5);
            if (text.length() + line.length() <= 390) {
                text.append(line);
            }
        }
        if (random.nextInt(3) == 0) {
            spoil(text);
        }
        String s = text.length() > 400 ? text.substring(0, 400) : text.toString();
        feedBoth(s);
        due("text " + k + " '" + s + "'", hill.text(k), plain.text(k));
        due("fault(0) " + k + " '" + s + "'", hill.fault(0), plain.fault(0));
        due("fault(1) " + k + " '" + s + "'", hill.fault(1), plain.fault(1));
    }

    private void feedBoth(String s) {
        int[] five = new int[5];
        for (int from = 0; from < s.length(); from += 20) {
            for (int i = 0; i < 20; i++) {
                int sign = from + i < s.length() ? s.charAt(from + i) : random.nextInt(256);
                five[i / 4] = five[i / 4] << 8 | sign;
            }
            due("feed", hill.feed(five[0], five[1], five[2], five[3], five[4]),
                plain.feed(five[0], five[1], five[2], five[3], five[4]));
        }
        due("end", hill.end(s.length()), plain.end(s.length()));
    }

    private void spoil(StringBuilder text) {
        String[] bits = {";", "(", ")", "not ", " when ", "and", " or ", "1", "12345", "0", "/0", "+", "*", "<", "x",
            "word ", " 20", "99 ", " ", "\n", "\t", "\u00e9", "A", "person", " 1000 ", "day", "climbs ", "=", "answers"};
        for (int n = random.nextInt(3); n >= 0; n--) {
            int i = random.nextInt(text.length() + 1);
            if (random.nextInt(3) == 0 && i < text.length()) {
                text.deleteCharAt(i);
            } else {
                text.insert(i, bits[random.nextInt(bits.length)]);
            }
        }
    }

    private String blank() {
        int pick = random.nextInt(12);
        return pick == 0 ? "\n" : pick == 1 ? "  " : pick == 2 ? "" : " ";
    }

    private String line(int k, boolean brief) {
        if (k == 1) {
            int day = plain.look(7) + random.nextInt(3);
            int minute = random.nextBoolean() ? plain.look(6) + random.nextInt(4) : random.nextInt(60);
            return "on" + blank() + some(day, day) + blank() + "person" + blank()
                + some(0, Math.max(0, plain.look(0) - 1)) + blank() + "with" + blank() + some(0, 19) + blank()
                + "at " + Math.min(59, minute) + blank() + ";";
        }
        if (k == 2) {
            return "from " + (plain.look(7) + random.nextInt(3)) + blank() + "set" + blank() + some(10, 59) + ";";
        }
        if (k == 3) {
            StringBuilder s = new StringBuilder("word " + some(0, 19) + " answers");
            for (int i = random.nextInt(6); i >= 0; i--) {
                s.append(' ').append(some(0, 9));
            }
            return s.append(";").toString();
        }
        String[] words = {"climbs", "tires", "says"};
        String when = random.nextBoolean() ? " when " + either(0) : "";
        int pick = random.nextInt(3);
        String times = pick == 2 && random.nextBoolean() ? "*100" : "";
        return words[pick] + " " + (brief ? "1" : sum() + times + when) + blank() + ";";
    }

    private String either(int depth) {
        String s = both(depth);
        while (random.nextInt(4) == 0) {
            s += " or " + both(depth);
        }
        return s;
    }

    private String both(int depth) {
        String s = one(depth);
        while (random.nextInt(4) == 0) {
            s += blank() + "and" + " " + one(depth);
        }
        return s;
    }

    private String one(int depth) {
        if (depth < 10 && random.nextInt(4) == 0) {
            return "not " + one(depth + 1);
        }
        if (depth < 10 && random.nextInt(4) == 0) {
            return "(" + either(depth + 1) + blank() + ")";
        }
        return sum() + blank() + "<=>".charAt(random.nextInt(3)) + blank() + sum();
    }

    private String sum() {
        String s = product();
        while (random.nextInt(3) == 0) {
            s += blank() + "+-".charAt(random.nextInt(2)) + blank() + product();
        }
        return s;
    }

    private String product() {
        String s = unit();
        while (random.nextInt(4) == 0) {
            s += random.nextBoolean() ? "*" + unit() : "/" + (random.nextInt(30) == 0 ? 0 : 1 + random.nextInt(20));
        }
        return s;
    }

    private String unit() {
        return random.nextBoolean() ? NAMES[random.nextInt(NAMES.length)] + (random.nextBoolean() ? " " : "")
            : Integer.toString(random.nextInt(random.nextInt(10) == 0 ? 10000 : 30));
    }

    private void compareAll() {
        for (int what = -1; what <= 15; what++) {
            due("look " + what, hill.look(what), plain.look(what));
        }
        for (int p = -1; p <= plain.look(0); p++) {
            for (int what = -1; what <= 11; what++) {
                due("of " + p + " " + what, hill.of(p, what), plain.of(p, what));
            }
        }
        for (int i = -1; i <= plain.look(8); i++) {
            for (int what = -1; what <= 5; what++) {
                due("book " + i + " " + what, hill.book(i, what), plain.book(i, what));
            }
        }
    }
}
