import java.util.ArrayList;
import java.util.Arrays;
import java.util.HashSet;
import java.util.List;
import java.util.Set;

/**
 * The document written down a second time, by trees, lists and trying all there is, for ModelTest to
 * hold against the class.
 */
final class PlainHill {
    static final int NONE = -1;
    static final int NO_SUCH = -2;

    private interface Expr {
        int of(State s, int p);
    }

    private record LawLine(String word, Expr tells, Expr when) {
    }

    private static final class Person implements Cloneable {
        int voice;
        int legs;
        int party;
        int breath = 99;
        int at;
        boolean going;
        int word = NONE;
        int said;

        Person copy() {
            try {
                return (Person) clone();
            } catch (CloneNotSupportedException e) {
                throw new IllegalStateException(e);
            }
        }
    }

    private static final class State {
        List<Person> people = new ArrayList<>();
        int kept = NONE;
        int last = NONE;
        int lastBy = NONE;
        int asked;
        int right;
        int sunset = 40;
        int minute;
        int day;
        int draws;
        List<int[]> book = new ArrayList<>();

        State copy() {
            State s = new State();
            for (Person p : people) {
                s.people.add(p.copy());
            }
            s.kept = kept;
            s.last = last;
            s.lastBy = lastBy;
            s.asked = asked;
            s.right = right;
            s.sunset = sunset;
            s.minute = minute;
            s.day = day;
            s.draws = draws;
            s.book = new ArrayList<>(book);
            return s;
        }

        int up() {
            int n = 0;
            for (Person p : people) {
                if (p.at == 99) {
                    n++;
                }
            }
            return n;
        }
    }

    private static final class Mind {
        List<LawLine> law = List.of();
        List<int[]> climbs = List.of();
        List<int[]> suns = List.of();
        List<int[]> suits = List.of();
        List<int[]> answers = new ArrayList<>();
        List<int[]> watches = new ArrayList<>();
        List<int[]> steps = new ArrayList<>();
        String[] spelled = {"", "", "", "", "", "", "", ""};
        List<int[]> speakers = new ArrayList<>();
        int[] rule = {1, 0, 1000};
        List<int[]> prices = new ArrayList<>();
        int[] worth = new int[4];

        Mind copy() {
            Mind m = new Mind();
            m.law = law;
            m.climbs = climbs;
            m.suns = suns;
            m.suits = suits;
            m.answers = new ArrayList<>(answers);
            m.watches = new ArrayList<>(watches);
            m.steps = new ArrayList<>(steps);
            m.spelled = spelled.clone();
            m.speakers = new ArrayList<>(speakers);
            m.rule = rule.clone();
            m.prices = new ArrayList<>(prices);
            m.worth = worth.clone();
            return m;
        }
    }

    private static final class Fault extends RuntimeException {
        private static final long serialVersionUID = 1L;
        final int kind;
        final int place;

        Fault(int kind, int place) {
            this.kind = kind;
            this.place = place;
        }
    }

    private State s = new State();
    private Mind m = new Mind();
    private final List<State> past = new ArrayList<>();
    private State imageState;
    private Mind imageMind;
    private StringBuilder tape = new StringBuilder();
    private int faultKind;
    private int faultPlace = NONE;

    int state(int v) {
        int was = s.draws;
        s.draws = v;
        past.clear();
        return was;
    }

    int person(int voice, int legs, int party) {
        if (voice < 0 || voice > 9 || legs < 1 || legs > 9 || party < 0 || party > 3 || s.people.size() == 10) {
            return NONE;
        }
        Person p = new Person();
        p.voice = voice;
        p.legs = legs;
        p.party = party;
        s.people.add(p);
        past.clear();
        return s.people.size() - 1;
    }

    private boolean has(int who) {
        return who >= 0 && who < s.people.size();
    }

    boolean set(int what, int who, int v) {
        boolean ok = switch (what) {
            case 0 -> has(who) && v >= 0 && v <= 9;
            case 1 -> has(who) && v >= 1 && v <= 9;
            case 2 -> has(who) && v >= 0 && v <= 3;
            case 3, 4 -> has(who) && v >= 0 && v <= 99;
            case 5 -> v >= 10 && v <= 59;
            case 6 -> v >= -1 && v <= 19;
            default -> false;
        };
        if (!ok) {
            return false;
        }
        switch (what) {
            case 0 -> s.people.get(who).voice = v;
            case 1 -> s.people.get(who).legs = v;
            case 2 -> s.people.get(who).party = v;
            case 3 -> s.people.get(who).breath = v;
            case 4 -> s.people.get(who).at = v;
            case 5 -> s.sunset = v;
            default -> s.kept = v;
        }
        past.clear();
        return true;
    }

    private void keep() {
        past.add(s.copy());
        if (past.size() > 6) {
            past.remove(0);
        }
    }

    boolean act(int what, int who, int v) {
        if (what < 0 || what > 2 || !has(who) || what < 2 && (v < 0 || v > 19)) {
            return false;
        }
        Person p = s.people.get(who);
        if (what == 0 && (p.at < 99 || s.minute > s.sunset) || what == 1 && p.going || what == 2 && !p.going) {
            return false;
        }
        keep();
        p = s.people.get(who);
        if (what == 0) {
            s.last = v;
            s.lastBy = who;
            p.said++;
            note(s, 1, who, v);
        } else if (what == 1) {
            p.going = true;
            p.word = v;
        } else {
            p.going = false;
            p.word = NONE;
            p.at = 0;
        }
        return true;
    }

    private static void note(State s, int what, int who, int much) {
        if (s.book.size() < 150) {
            s.book.add(new int[] {s.day, s.minute, what, who, much});
        }
    }

    private int suitsOf(int word) {
        int set = 0;
        for (int[] line : m.suits) {
            if (line[0] == word) {
                set |= line[1];
            }
        }
        return set;
    }

    int ask(int q) {
        if (q < 0 || q > 9) {
            return NONE;
        }
        keep();
        boolean right = s.kept != NONE && (suitsOf(s.kept) & 1 << q) != 0;
        s.asked++;
        s.right += right ? 1 : 0;
        note(s, right ? 3 : 4, q, s.kept);
        return right ? 1 : 0;
    }

    private int law(State s, String word, int p) {
        Person x = s.people.get(p);
        int v = switch (word) {
            case "climbs" -> 3 + x.legs;
            case "tires" -> 2;
            default -> 300 + 50 * x.voice + x.breath;
        };
        for (LawLine line : m.law) {
            if (line.word.equals(word) && (line.when == null || line.when.of(s, p) != 0)) {
                v = line.tells.of(s, p);
                break;
            }
        }
        return Math.min(word.equals("says") ? 1000 : 99, Math.max(0, v));
    }

    private void climb(State t, int p) {
        Person x = t.people.get(p);
        if (x.breath == 0) {
            x.breath = 9;
        } else {
            int more = law(t, "climbs", p);
            int less = law(t, "tires", p);
            x.at = Math.min(99, x.at + more);
            x.breath = Math.max(0, x.breath - less);
        }
    }

    /** Whose word was kept, if there was a sunset: a list of one; else an empty one. */
    private List<Integer> minute(State t, boolean draws, int[] said) {
        List<Integer> night = new ArrayList<>();
        if (t.minute == 0) {
            for (int[] line : m.suns) {
                if (line[0] == t.day) {
                    t.sunset = line[1];
                }
            }
        }
        for (int[] line : m.climbs) {
            if (line[0] == t.day && line[3] == t.minute && !t.people.get(line[1]).going) {
                t.people.get(line[1]).going = true;
                t.people.get(line[1]).word = line[2];
            }
        }
        if (t.minute < t.sunset) {
            for (int p = 0; p < t.people.size(); p++) {
                Person x = t.people.get(p);
                if (x.going && x.at < 99) {
                    climb(t, p);
                } else if (x.going) {
                    int says = law(t, "says", p);
                    int tires = law(t, "tires", p);
                    boolean out;
                    if (draws) {
                        t.draws = t.draws * 1664525 + 1013904223;
                        out = ((t.draws & 0xffffffffL) >> 8) % 1000 < says;
                    } else {
                        out = says >= 500;
                    }
                    if (out) {
                        t.last = x.word;
                        t.lastBy = p;
                        x.said++;
                        x.breath = Math.max(0, x.breath - tires);
                        said[0]++;
                        note(t, 0, p, x.word);
                    } else {
                        x.breath = Math.min(99, x.breath + 1);
                    }
                }
            }
        }
        if (t.minute == t.sunset) {
            t.kept = t.last;
            night.add(t.lastBy);
            for (Person x : t.people) {
                x.at = 0;
                x.going = false;
                x.word = NONE;
                x.breath = 99;
            }
            note(t, 2, NONE, t.kept);
        }
        t.minute++;
        if (t.minute == 60) {
            t.minute = 0;
            t.day++;
            t.last = NONE;
            t.lastBy = NONE;
        }
        return night;
    }

    int minutes(int n) {
        if (n < 1 || n > 60) {
            return NONE;
        }
        int[] said = new int[1];
        for (int i = 0; i < n; i++) {
            keep();
            minute(s, true, said);
        }
        return said[0];
    }

    int feed(int a, int b, int c, int d, int e) {
        if (tape.length() + 20 > 400) {
            return NONE;
        }
        for (int v : new int[] {a, b, c, d, e}) {
            for (int shift = 24; shift >= 0; shift -= 8) {
                tape.append((char) (v >> shift & 255));
            }
        }
        return tape.length();
    }

    boolean end(int n) {
        if (n < 0 || n > tape.length()) {
            return false;
        }
        tape.setLength(n);
        return true;
    }

    // ---- texts

    private record Token(String s, int place) {
        boolean isNumber() {
            return s.matches("[0-9]{1,4}");
        }
    }

    private final List<Token> tokens = new ArrayList<>();
    private int at;

    private void scan(String text) {
        tokens.clear();
        at = 0;
        int i = 0;
        while (i < text.length()) {
            int j = i + 1;
            String kind = kindOf(text.charAt(i));
            if (kind.equals("letter") || kind.equals("digit")) {
                while (j < text.length() && kindOf(text.charAt(j)).equals(kind)) {
                    j++;
                }
            }
            if (!kind.equals("blank")) {
                tokens.add(new Token(text.substring(i, j), i));
            }
            i = j;
        }
        tokens.add(new Token("", text.length()));
    }

    private static String kindOf(char c) {
        if (c >= 'a' && c <= 'z' || c >= 'A' && c <= 'Z') {
            return "letter";
        }
        return c >= '0' && c <= '9' ? "digit" : c == ' ' || c == '\n' ? "blank" : "sign";
    }

    private Token here() {
        return tokens.get(at);
    }

    private boolean is(String... signs) {
        return Arrays.asList(signs).contains(here().s);
    }

    private void want(String... signs) {
        if (!is(signs)) {
            throw new Fault(1, here().place);
        }
        at++;
    }

    private int number(int low, int high) {
        if (!here().isNumber()) {
            throw new Fault(1, here().place);
        }
        int v = Integer.parseInt(here().s);
        if (v < low || v > high) {
            throw new Fault(2, here().place);
        }
        at++;
        return v;
    }

    int text(int k) {
        String text = tape.toString();
        tape = new StringBuilder();
        faultKind = 0;
        faultPlace = NONE;
        if (k < 0 || k > 3) {
            return NONE;
        }
        scan(text);
        List<LawLine> law = new ArrayList<>();
        List<int[]> rows = new ArrayList<>();
        try {
            for (int n = 0; !is(""); n++) {
                Token first = here();
                want(switch (k) {
                    case 0 -> new String[] {"climbs", "tires", "says"};
                    case 1 -> new String[] {"on"};
                    case 2 -> new String[] {"from"};
                    default -> new String[] {"word"};
                });
                if (n == 16) {
                    throw new Fault(3, first.place);
                }
                if (k == 0) {
                    Expr tells = sum();
                    Expr when = null;
                    if (is("when")) {
                        at++;
                        when = either(0);
                    }
                    law.add(new LawLine(first.s, tells, when));
                } else {
                    rows.add(row(k));
                }
                want(";");
            }
        } catch (Fault f) {
            faultKind = f.kind;
            faultPlace = f.place;
            return NONE;
        }
        if (k == 0) {
            m.law = law;
            return law.size();
        }
        if (k == 1) {
            m.climbs = rows;
        } else if (k == 2) {
            m.suns = rows;
        } else {
            m.suits = rows;
        }
        if (k < 3) {
            past.clear();
        }
        return rows.size();
    }

    private int[] row(int k) {
        if (k == 1) {
            int day = number(0, 999);
            want("person");
            int who = number(0, s.people.size() - 1);
            want("with");
            int word = number(0, 19);
            want("at");
            return new int[] {day, who, word, number(0, 59)};
        }
        if (k == 2) {
            int day = number(0, 999);
            want("set");
            return new int[] {day, number(10, 59)};
        }
        int word = number(0, 19);
        want("answers");
        int set = 1 << number(0, 9);
        while (here().isNumber()) {
            set |= 1 << number(0, 9);
        }
        return new int[] {word, set};
    }

    private Expr either(int open) {
        Expr a = both(open);
        while (is("or")) {
            at++;
            Expr l = a;
            Expr r = both(open);
            a = (t, p) -> l.of(t, p) != 0 || r.of(t, p) != 0 ? 1 : 0;
        }
        return a;
    }

    private Expr both(int open) {
        Expr a = one(open);
        while (is("and")) {
            at++;
            Expr l = a;
            Expr r = one(open);
            a = (t, p) -> l.of(t, p) != 0 && r.of(t, p) != 0 ? 1 : 0;
        }
        return a;
    }

    private Expr one(int open) {
        if (is("not", "(")) {
            if (open == 8) {
                throw new Fault(3, here().place);
            }
            if (is("not")) {
                at++;
                Expr a = one(open + 1);
                return (t, p) -> a.of(t, p) != 0 ? 0 : 1;
            }
            at++;
            Expr a = either(open + 1);
            want(")");
            return a;
        }
        Expr l = sum();
        String sign = here().s;
        want("<", "=", ">");
        Expr r = sum();
        return (t, p) -> switch (sign) {
            case "<" -> l.of(t, p) < r.of(t, p) ? 1 : 0;
            case "=" -> l.of(t, p) == r.of(t, p) ? 1 : 0;
            default -> l.of(t, p) > r.of(t, p) ? 1 : 0;
        };
    }

    private Expr sum() {
        Expr a = product();
        while (is("+", "-")) {
            boolean plus = is("+");
            at++;
            Expr l = a;
            Expr r = product();
            a = plus ? (t, p) -> l.of(t, p) + r.of(t, p) : (t, p) -> l.of(t, p) - r.of(t, p);
        }
        return a;
    }

    private Expr product() {
        Expr a = unit();
        while (is("*", "/")) {
            boolean times = is("*");
            at++;
            Expr l = a;
            if (times) {
                Expr r = unit();
                a = (t, p) -> l.of(t, p) * r.of(t, p);
            } else {
                int by = number(1, 9999);
                a = (t, p) -> l.of(t, p) / by;
            }
        }
        return a;
    }

    private Expr unit() {
        if (here().isNumber()) {
            int v = number(0, 9999);
            return (t, p) -> v;
        }
        String name = here().s;
        want("voice", "legs", "party", "breath", "height", "word", "left", "others", "day");
        return (t, p) -> {
            Person x = t.people.get(p);
            return switch (name) {
                case "voice" -> x.voice;
                case "legs" -> x.legs;
                case "party" -> x.party;
                case "breath" -> x.breath;
                case "height" -> x.at;
                case "word" -> x.going ? x.word : 0;
                case "left" -> t.minute < t.sunset ? t.sunset - t.minute : 0;
                case "others" -> t.up() - (x.at == 99 ? 1 : 0);
                default -> t.day;
            };
        };
    }

    int fault(int what) {
        return what == 0 ? faultKind : what == 1 ? faultPlace : NONE;
    }

    int of(int p, int what) {
        if (!has(p)) {
            return NO_SUCH;
        }
        Person x = s.people.get(p);
        return switch (what) {
            case 0 -> x.voice;
            case 1 -> x.legs;
            case 2 -> x.party;
            case 3 -> x.breath;
            case 4 -> x.at;
            case 5 -> x.going ? 1 : 0;
            case 6 -> x.going ? x.word : NONE;
            case 7 -> x.said;
            case 8 -> law(s, "climbs", p);
            case 9 -> law(s, "tires", p);
            case 10 -> law(s, "says", p);
            default -> NO_SUCH;
        };
    }

    int book(int i, int what) {
        return i < 0 || i >= s.book.size() || what < 0 || what > 4 ? NO_SUCH : s.book.get(i)[what];
    }

    int goes(int n, int what) {
        if (n < 1 || n > 60 || what < 0 || what > 3) {
            return NO_SUCH;
        }
        State t = s.copy();
        for (int i = 0; i < n; i++) {
            minute(t, false, new int[1]);
        }
        int breath = 0;
        for (Person x : t.people) {
            breath += x.breath;
        }
        return what == 0 ? t.kept : what == 1 ? t.last : what == 2 ? t.up() : breath;
    }

    int keeps(int what) {
        if (what < 0 || what > 1) {
            return NO_SUCH;
        }
        State t = s.copy();
        List<Integer> night = List.of();
        while (night.isEmpty()) {
            night = minute(t, false, new int[1]);
        }
        return what == 0 ? t.kept : night.get(0) == NONE ? NONE : t.people.get(night.get(0)).party;
    }

    int earliest(int p) {
        if (!has(p)) {
            return NONE;
        }
        State t = s.copy();
        int n = 0;
        while (t.people.get(p).at < 99 && n <= 200) {
            climb(t, p);
            n++;
        }
        return n > 200 ? NONE : n;
    }

    int fits(int v, int what) {
        if (what == 0) {
            return v < 0 || v > 19 ? NONE : suitsOf(v);
        }
        if (v < 0 || v > 1023 || what < 1 || what > 3) {
            return NONE;
        }
        int[] suits = new int[20];
        int useful = 0;
        int best = 0;
        for (int w = 0; w < 20; w++) {
            suits[w] = suitsOf(w);
            useful |= suits[w] == 0 ? 0 : 1 << w;
            if (Integer.bitCount(suits[w] & v) > Integer.bitCount(suits[best] & v)) {
                best = w;
            }
        }
        if (what == 1) {
            return best;
        }
        int least = NONE;
        for (int set = useful; set >= 0; set = set == 0 ? NONE : set - 1 & useful) {
            int all = 0;
            for (int w = 0; w < 20; w++) {
                all |= (set >> w & 1) == 1 ? suits[w] : 0;
            }
            if ((v & ~all) == 0 && (least == NONE || Integer.bitCount(set) < Integer.bitCount(least)
                || Integer.bitCount(set) == Integer.bitCount(least) && set < least)) {
                least = set;
            }
        }
        return what == 3 || least == NONE ? least : Integer.bitCount(least);
    }

    private int told(List<int[]> list, int most, boolean ok, int... row) {
        if (!ok || list.size() == most) {
            return NONE;
        }
        list.add(row);
        return list.size();
    }

    private int none(List<int[]> list) {
        list.clear();
        return 0;
    }

    int answer(int q, boolean right) {
        return q == NONE ? none(m.answers) : told(m.answers, 10, q >= 0 && q <= 9, q, right ? 1 : 0);
    }

    int could(int what) {
        int set = 0;
        for (int w = 0; w <= 20; w++) {
            boolean ok = true;
            for (int[] a : m.answers) {
                ok &= (suitsOf(w) >> a[0] & 1) == a[1];
            }
            set |= ok ? 1 << w : 0;
        }
        if (what == 0) {
            return set;
        }
        if (what != 1 || Integer.bitCount(set) < 2) {
            return NONE;
        }
        int best = NONE;
        int bestPart = 99;
        for (int q = 0; q < 10; q++) {
            int yes = 0;
            int no = 0;
            for (int w = 0; w <= 20; w++) {
                if ((set >> w & 1) == 1) {
                    if ((suitsOf(w) >> q & 1) == 1) {
                        yes++;
                    } else {
                        no++;
                    }
                }
            }
            if (Math.max(yes, no) < bestPart) {
                bestPart = Math.max(yes, no);
                best = q;
            }
        }
        return best;
    }

    int watch(int from, int to) {
        return from == NONE ? none(m.watches)
            : told(m.watches, 9, from >= 0 && from <= 59 && to >= from && to <= 59, from, to);
    }

    int guard(int x, int d) {
        if (x < 0 || x > 59 || d < -1 || d > 9) {
            return NONE;
        }
        int best = NONE;
        for (int set = 0; set < 1 << m.watches.size(); set++) {
            boolean all = true;
            for (int minute = x; minute <= 59; minute++) {
                boolean one = false;
                for (int i = 0; i < m.watches.size(); i++) {
                    one |= (set >> i & 1) == 1 && m.watches.get(i)[0] <= minute && m.watches.get(i)[1] >= minute;
                }
                all &= one;
            }
            if (all && (best == NONE || Integer.bitCount(set) < best)) {
                best = Integer.bitCount(set);
            }
        }
        return best == NONE || d == NONE ? best : best > d ? 1 : 0;
    }

    int step(int a, int w, int b) {
        return a == NONE ? none(m.steps)
            : told(m.steps, 16, a >= 0 && a <= 9 && w >= 0 && w <= 19 && b >= 0 && b <= 9, a, w, b);
    }

    int down(int a, int b, int w) {
        if (a < 0 || a > 9 || b < 0 || b > 9 || w < -1 || w > 19) {
            return NONE;
        }
        Set<Integer> here = new HashSet<>(Set.of(a));
        for (int n = 0; n < 20; n++) {
            if (here.contains(b)) {
                return n;
            }
            Set<Integer> next = new HashSet<>();
            Set<Integer> used = new HashSet<>();
            for (int[] x : m.steps) {
                if (used.add(x[0] * 100 + x[1]) && here.contains(x[0]) && (w == NONE || w == x[1])) {
                    next.add(x[2]);
                }
            }
            here = next;
        }
        return NONE;
    }

    boolean spell(int word, int n, int v) {
        if (word < 0 || word > 7 || n < 0 || n > 5 || v < 0) {
            return false;
        }
        if (n == 0 && v == 0) {
            m.spelled[word] = "";
            return true;
        }
        String digits = Integer.toString(v);
        if (n == 0 || digits.length() > n) {
            return false;
        }
        m.spelled[word] = "0".repeat(n - digits.length()) + digits;
        return true;
    }

    int over(int a, int b) {
        if (a < 0 || a > 7 || b < -1 || b > 7) {
            return NONE;
        }
        int[][] far = new int[8][8];
        for (int i = 0; i < 8; i++) {
            for (int j = 0; j < 8; j++) {
                int unlike = 0;
                String x = m.spelled[i];
                String y = m.spelled[j];
                for (int k = 0; k < x.length() && k < y.length(); k++) {
                    unlike += x.charAt(k) == y.charAt(k) ? 0 : 1;
                }
                far[i][j] = i == j ? 0 : x.length() == y.length() && unlike == 1 ? 1 : 1000;
            }
        }
        for (int k = 0; k < 8; k++) {
            for (int i = 0; i < 8; i++) {
                for (int j = 0; j < 8; j++) {
                    far[i][j] = Math.min(far[i][j], far[i][k] + far[k][j]);
                }
            }
        }
        int many = 0;
        for (int j = 0; j < 8; j++) {
            many += j != a && far[a][j] < 1000 ? 1 : 0;
        }
        return b == NONE ? many : far[a][b] < 1000 ? far[a][b] : NONE;
    }

    int speaker(int minutes, int patience) {
        return minutes == NONE ? none(m.speakers) : told(m.speakers, 6,
            minutes >= 1 && minutes <= 30 && patience >= 0 && patience <= 99, minutes, patience);
    }

    private static void orders(List<Integer> begun, int n, List<List<Integer>> all) {
        if (begun.size() == n) {
            all.add(List.copyOf(begun));
        }
        for (int i = 0; i < n; i++) {
            if (!begun.contains(i)) {
                begun.add(i);
                orders(begun, n, all);
                begun.remove(begun.size() - 1);
            }
        }
    }

    int council(int what) {
        if (what != 0 && (what < 10 || what >= 10 + m.speakers.size())) {
            return NONE;
        }
        List<List<Integer>> all = new ArrayList<>();
        orders(new ArrayList<>(), m.speakers.size(), all);
        int best = -1;
        List<Integer> first = null;
        for (List<Integer> order : all) {
            int time = 0;
            int spoke = 0;
            for (int i : order) {
                if (time <= m.speakers.get(i)[1]) {
                    time += m.speakers.get(i)[0];
                    spoke++;
                }
            }
            if (spoke > best) {
                best = spoke;
                first = order;
            }
        }
        return what == 0 ? best : first.get(what - 10);
    }

    boolean rule(int a, int b, int mod) {
        if (a < 0 || a > 999 || b < 0 || b > 999 || mod < 1 || mod > 1000) {
            return false;
        }
        m.rule = new int[] {a, b, mod};
        return true;
    }

    int thing(int x, int what) {
        if (x < 0 || x > 999 || what < 0 || what > 1) {
            return NONE;
        }
        List<Integer> seen = new ArrayList<>();
        int y = x % m.rule[2];
        while (!seen.contains(y)) {
            seen.add(y);
            y = (m.rule[0] * y + m.rule[1]) % m.rule[2];
        }
        return what == 0 ? seen.size() - seen.indexOf(y) : seen.indexOf(y);
    }

    int price(int v) {
        return v == NONE ? none(m.prices) : told(m.prices, 12, v >= 0 && v <= 999, v);
    }

    int prices(int k, int what) {
        if (k < 1 || k > 5 || what < 0 || what > 1) {
            return NONE;
        }
        int heard = 0;
        int sum = 0;
        for (int i = 0; i < m.prices.size(); i++) {
            int most = -1;
            for (int j = 0; j < i; j++) {
                most = i - j <= k ? Math.max(most, m.prices.get(j)[0]) : most;
            }
            if (m.prices.get(i)[0] > most) {
                heard++;
                sum += m.prices.get(i)[0];
            }
        }
        return what == 0 ? heard : sum;
    }

    int bell(int n, int k) {
        if (n < 1 || n > 12 || k < 0 || k > n) {
            return NONE;
        }
        int ways = 0;
        for (int set = 0; set < 1 << n; set++) {
            ways += Integer.bitCount(set) == k && (set & set >> 1 & set >> 2) == 0 ? 1 : 0;
        }
        return ways;
    }

    boolean worth(int party, int v) {
        if (party < 0 || party > 3 || v < 0 || v > 99) {
            return false;
        }
        m.worth[party] = v;
        return true;
    }

    int worths() {
        int best = NONE;
        for (Person a : s.people) {
            for (Person b : s.people) {
                if (a.at == 99 && b.at == 99 && a.party != b.party) {
                    best = Math.max(best, m.worth[a.party] + m.worth[b.party]);
                }
            }
        }
        return best;
    }

    private static int grundy(int n, int[] known) {
        if (known[n] < 0) {
            Set<Integer> seen = new HashSet<>();
            for (int r = 1; r * r <= n; r++) {
                seen.add(grundy(n - r * r, known));
            }
            int g = 0;
            while (seen.contains(g)) {
                g++;
            }
            known[n] = g;
        }
        return known[n];
    }

    int game(int what) {
        if (what < 0 || what > 1) {
            return NONE;
        }
        int[] known = new int[100];
        Arrays.fill(known, -1);
        for (int p = 0; p < s.people.size(); p++) {
            for (int r = 1; r * r <= s.people.get(p).breath; r++) {
                int left = 0;
                for (int q = 0; q < s.people.size(); q++) {
                    left ^= grundy(s.people.get(q).breath - (q == p ? r * r : 0), known);
                }
                if (left == 0) {
                    return what == 0 ? p : r * r;
                }
            }
        }
        return NONE;
    }

    boolean undo() {
        if (past.isEmpty()) {
            return false;
        }
        s = past.remove(past.size() - 1);
        return true;
    }

    boolean image(boolean taken) {
        if (taken) {
            imageState = s.copy();
            imageMind = m.copy();
            return true;
        }
        if (imageState == null) {
            return false;
        }
        s = imageState.copy();
        m = imageMind.copy();
        past.clear();
        return true;
    }

    int look(int what) {
        int[] all = {s.people.size(), s.kept, s.last, s.asked, s.right, s.sunset, s.minute, s.day, s.book.size(),
            s.draws, m.law.size(), m.climbs.size(), m.suns.size(), m.suits.size(), past.size()};
        return what < 0 || what >= all.length ? NO_SUCH : all[what];
    }
}
