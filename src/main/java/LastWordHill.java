import java.util.Arrays;

/**
 * A hill that keeps the last word said on it before nightfall and says it back all the next day.
 * The promises are numbered in ../shared/DOC.md; README.md says how the parts below hang together.
 */
public final class LastWordHill {
    public static final int NONE = -1;

    private static final int NO_SUCH = NONE - 1;
    private static final int WORDS = 20;
    private static final int WIND = WORDS;
    private static final int QUESTIONS = 10;
    private static final int MOST_PEOPLE = 10;
    private static final int PARTIES = 4;
    private static final int TOP = 99;
    private static final int FULL_BREATH = 99;
    private static final int REST = 9;
    private static final int LAST_MINUTE = 59;
    private static final int FIRST_SUNSET = 10;
    private static final int LAST_DAY = 9998;
    private static final int THOUGHT_OF_SAYING = 500;
    private static final int LONGEST_CLIMB = 200;

    // What of() tells of a PERSON stands under the same numbers in his row.
    private static final int VOICE = 0;
    private static final int LEGS = 1;
    private static final int PARTY = 2;
    private static final int BREATH = 3;
    private static final int AT = 4;
    private static final int GOING = 5;
    private static final int WORD = 6;
    private static final int SAID = 7;
    private static final int PERSON_WIDTH = 8;
    private static final int[] LOWEST = {0, 1, 0, 0, 0};
    private static final int[] HIGHEST = {9, 9, 3, 99, 99};

    // The words and the names of THE LAW, as their keywords are counted.
    private static final int CLIMBS = 0;
    private static final int TIRES = 1;
    private static final int SAYS = 2;
    private static final int NAME_WORD = 5;
    private static final int NAME_LEFT = 6;
    private static final int NAME_OTHERS = 7;
    private static final int NAME_DAY = 8;

    private static final int TEXT_LAW = 0;
    private static final int TEXT_CLIMBS = 1;
    private static final int TEXT_SUNS = 2;
    private static final int TEXT_SUITS = 3;
    private static final int TEXT_LINES = 16;
    private static final int TAPE_LENGTH = 400;

    private static final int BOOK_SAID = 0;
    private static final int BOOK_SHOUTED = 1;
    private static final int BOOK_KEPT = 2;
    private static final int BOOK_RIGHT = 3;
    private static final int BOOK_WRONG = 4;
    private static final int BOOK_WIDTH = 5;
    private static final int BOOK_LINES = 150;

    private static final int KEPT_STEPS = 6;
    private static final int PLACES = 10;
    private static final int SPELLED = 8;
    private static final int LETTERS = 5;
    private static final int SPEAKERS = 6;
    private static final int WATCHES = 9;
    private static final int MOST_THING = 999;
    private static final int MOST_PRICE = 999;

    private final Scene now;
    private final Scene thought;
    private final Past past;
    private final Texts texts;
    private final Reader reader;
    private final Told told;
    private final Table written;
    private final Sun sun;
    private final Muse muse;
    private final Image kept;

    public LastWordHill() {
        now = new Scene();
        thought = new Scene();
        past = new Past();
        texts = new Texts();
        reader = new Reader();
        told = new Told();
        written = new Table(BOOK_WIDTH, BOOK_LINES);
        sun = new Sun(texts, written);
        muse = new Muse(texts, told);
        kept = new Image();
    }

    private static boolean within(int v, int low, int high) {
        return v >= low && v <= high;
    }

    private static boolean isWord(int v) {
        return within(v, 0, WORDS - 1);
    }

    private static boolean isQuestion(int v) {
        return within(v, 0, QUESTIONS - 1);
    }

    private static boolean allowed(int what, int v) {
        return within(what, VOICE, AT) && within(v, LOWEST[what], HIGHEST[what]);
    }

    public int state(int v) {
        int before = now.draws;
        now.draws = v;
        past.forget();
        return before;
    }

    public int person(int voice, int legs, int party) {
        boolean fitting = allowed(VOICE, voice) && allowed(LEGS, legs) && allowed(PARTY, party);
        if (!fitting || now.people >= MOST_PEOPLE) {
            return NONE;
        }
        int number = now.people;
        now.people++;
        now.put(number, VOICE, voice);
        now.put(number, LEGS, legs);
        now.put(number, PARTY, party);
        now.put(number, SAID, 0);
        now.sendHome(number);
        now.put(number, BREATH, FULL_BREATH);
        past.forget();
        return number;
    }

    public boolean set(int what, int who, int v) {
        boolean done = false;
        if (what == 5 && within(v, FIRST_SUNSET, LAST_MINUTE)) {
            now.sunset = v;
            done = true;
        } else if (what == 6 && (v == NONE || isWord(v))) {
            now.word = v;
            done = true;
        } else if (allowed(what, v) && now.has(who)) {
            now.put(who, what, v);
            done = true;
        }
        if (done) {
            past.forget();
        }
        return done;
    }

    public boolean act(int what, int who, int v) {
        if (!now.has(who)) {
            return false;
        }
        boolean going = now.tell(who, GOING) == 1;
        if (what == 0 && isWord(v) && now.isUp(who) && now.minute <= now.sunset) {
            past.keep(now);
            now.say(who, v);
            sun.note(now, BOOK_SHOUTED, who, v);
            return true;
        }
        if (what == 1 && isWord(v) && !going) {
            past.keep(now);
            now.letGo(who, v);
            return true;
        }
        if (what == 2 && going) {
            past.keep(now);
            now.sendHome(who);
            return true;
        }
        return false;
    }

    public int ask(int question) {
        if (!isQuestion(question)) {
            return NONE;
        }
        past.keep(now);
        boolean right = texts.suits(now.word, question);
        now.asked++;
        if (right) {
            now.right++;
        }
        sun.note(now, right ? BOOK_RIGHT : BOOK_WRONG, question, now.word);
        return right ? 1 : 0;
    }

    public int minutes(int n) {
        if (!within(n, 1, 60) || now.day + 1 > LAST_DAY) {
            return NONE;
        }
        int heard = 0;
        for (int i = 0; i < n; i++) {
            past.keep(now);
            heard += sun.pass(now, true);
        }
        return heard;
    }

    public int feed(int a, int b, int c, int d, int e) {
        Tokens tape = reader.tokens;
        if (tape.length + 20 > TAPE_LENGTH) {
            return NONE;
        }
        tape.addNumber(a);
        tape.addNumber(b);
        tape.addNumber(c);
        tape.addNumber(d);
        tape.addNumber(e);
        return tape.length;
    }

    public boolean end(int n) {
        if (n < 0 || n > reader.tokens.length) {
            return false;
        }
        reader.tokens.length = n;
        return true;
    }

    public int text(int k) {
        int lines = reader.take(k, now.people);
        if (lines == NONE) {
            return NONE;
        }
        texts.adopt(k, reader.draft);
        if (k == TEXT_CLIMBS || k == TEXT_SUNS) {
            past.forget();
        }
        return lines;
    }

    public int fault(int what) {
        return what == 0 ? reader.fault : what == 1 ? reader.faultPlace : NONE;
    }

    public int of(int person, int what) {
        if (!now.has(person) || !within(what, 0, PERSON_WIDTH + SAYS)) {
            return NO_SUCH;
        }
        return what < PERSON_WIDTH ? now.tell(person, what) : texts.law.tells(what - PERSON_WIDTH, now, person);
    }

    public int book(int i, int what) {
        boolean there = within(i, 0, now.lines - 1) && within(what, 0, BOOK_WIDTH - 1);
        return there ? written.tell(i, what) : NO_SUCH;
    }

    public int goes(int n, int what) {
        if (!within(n, 1, 60) || !within(what, 0, 3)) {
            return NO_SUCH;
        }
        thought.become(now);
        for (int i = 0; i < n; i++) {
            sun.pass(thought, false);
        }
        switch (what) {
            case 0:
                return thought.word;
            case 1:
                return thought.last;
            case 2:
                return thought.manyUp();
            default:
                return thought.allBreath();
        }
    }

    public int keeps(int what) {
        if (!within(what, 0, 1)) {
            return NO_SUCH;
        }
        thought.become(now);
        boolean night = false;
        // The next SUNSET is at the latest in the last MINUTE of tomorrow.
        for (int i = 0; i < 2 * (LAST_MINUTE + 1) && !night; i++) {
            int minute = thought.minute;
            sun.pass(thought, false);
            night = minute == thought.sunset;
        }
        if (what == 0 || thought.word == NONE) {
            return thought.word;
        }
        return thought.tell(thought.wordBy, PARTY);
    }

    public int earliest(int person) {
        if (!now.has(person)) {
            return NONE;
        }
        thought.become(now);
        for (int n = 0; n <= LONGEST_CLIMB; n++) {
            if (thought.isUp(person)) {
                return n;
            }
            sun.climb(thought, person);
        }
        return NONE;
    }

    public int fits(int v, int what) {
        if (what == 0) {
            return isWord(v) ? texts.answered(v) : NONE;
        }
        if (!within(v, 0, (1 << QUESTIONS) - 1) || !within(what, 1, 3)) {
            return NONE;
        }
        if (what == 1) {
            return muse.bestWord(v);
        }
        muse.cover(v);
        return what == 2 ? muse.fewest : muse.leastSet;
    }

    public int answer(int question, boolean right) {
        if (question == NONE) {
            return told.answers.empty();
        }
        return isQuestion(question) ? told.answers.add(question, right ? 1 : 0, 0, 0, 0) : NONE;
    }

    public int could(int what) {
        return what == 0 ? muse.wordsThatCould() : what == 1 ? muse.nextQuestion() : NONE;
    }

    public int watch(int from, int to) {
        if (from == NONE) {
            return told.watches.empty();
        }
        boolean fitting = within(from, 0, LAST_MINUTE) && within(to, from, LAST_MINUTE);
        return fitting ? told.watches.add(from, to, 0, 0, 0) : NONE;
    }

    public int guard(int x, int d) {
        if (!within(x, 0, LAST_MINUTE) || !within(d, NONE, WATCHES)) {
            return NONE;
        }
        int count = muse.fewestWatches(x);
        if (count == NONE || d == NONE) {
            return count;
        }
        return count > d ? 1 : 0;
    }

    public int step(int a, int word, int b) {
        if (a == NONE) {
            return told.steps.empty();
        }
        boolean fitting = within(a, 0, PLACES - 1) && isWord(word) && within(b, 0, PLACES - 1);
        return fitting ? told.steps.add(a, word, b, 0, 0) : NONE;
    }

    public int down(int a, int b, int w) {
        if (!within(a, 0, PLACES - 1) || !within(b, 0, PLACES - 1)) {
            return NONE;
        }
        if (w == NONE) {
            return muse.stepsByAny(a, b);
        }
        return isWord(w) ? muse.stepsBy(a, b, w) : NONE;
    }

    public boolean spell(int word, int n, int v) {
        if (!within(word, 0, SPELLED - 1) || !within(n, 0, LETTERS)) {
            return false;
        }
        int beyond = 1;
        for (int i = 0; i < n; i++) {
            beyond *= 10;
        }
        if (!within(v, 0, beyond - 1)) {
            return false;
        }
        told.spelled.put(word, 0, n);
        told.spelled.put(word, 1, v);
        return true;
    }

    public int over(int a, int b) {
        if (!within(a, 0, SPELLED - 1) || !within(b, NONE, SPELLED - 1)) {
            return NONE;
        }
        return b == NONE ? muse.reachedFrom(a) : muse.stepsOver(a, b);
    }

    public int speaker(int minutes, int patience) {
        if (minutes == NONE) {
            return told.speakers.empty();
        }
        boolean fitting = within(minutes, 1, 30) && within(patience, 0, 99);
        return fitting ? told.speakers.add(minutes, patience, 0, 0, 0) : NONE;
    }

    public int council(int what) {
        int i = what - 10;
        boolean asksOne = what >= 10 && i < told.speakers.count;
        if (what != 0 && !asksOne) {
            return NONE;
        }
        return what == 0 ? muse.mostSpeakers() : muse.speakerAt(i);
    }

    public boolean rule(int a, int b, int m) {
        if (!within(a, 0, MOST_THING) || !within(b, 0, MOST_THING) || !within(m, 1, MOST_THING + 1)) {
            return false;
        }
        told.times = a;
        told.more = b;
        told.modulus = m;
        return true;
    }

    public int thing(int x, int what) {
        if (!within(x, 0, MOST_THING) || !within(what, 0, 1)) {
            return NONE;
        }
        int round = muse.roundOf(x);
        return what == 0 ? round : muse.aheadOfRound(x, round);
    }

    public int price(int v) {
        if (v == NONE) {
            return told.shouts.empty();
        }
        return within(v, 0, MOST_PRICE) ? told.shouts.add(v, 0, 0, 0, 0) : NONE;
    }

    public int prices(int k, int what) {
        if (!within(k, 1, 5) || !within(what, 0, 1)) {
            return NONE;
        }
        return muse.heardPrices(k, what == 1);
    }

    public int bell(int n, int k) {
        if (!within(n, 1, 12) || !within(k, 0, n)) {
            return NONE;
        }
        return Muse.waysToSound(n - k + 1, k);
    }

    public boolean worth(int party, int v) {
        if (!within(party, 0, PARTIES - 1) || !within(v, 0, 99)) {
            return false;
        }
        told.worths.put(party, 0, v);
        return true;
    }

    public int worths() {
        return muse.worthOfTwo(now);
    }

    public int game(int what) {
        return within(what, 0, 1) ? muse.openingMove(now, what == 1) : NONE;
    }

    public boolean undo() {
        return past.goBack(now);
    }

    public boolean image(boolean taken) {
        if (taken) {
            kept.take(now, texts, told, written);
            return true;
        }
        if (!kept.there) {
            return false;
        }
        kept.giveBack(now, texts, told, written);
        past.forget();
        return true;
    }

    public int look(int what) {
        switch (what) {
            case 0:
                return now.people;
            case 1:
                return now.word;
            case 2:
                return now.last;
            case 3:
                return now.asked;
            case 4:
                return now.right;
            case 5:
                return now.sunset;
            case 6:
                return now.minute;
            case 7:
                return now.day;
            case 8:
                return now.lines;
            case 9:
                return now.draws;
            case 14:
                return past.count;
            default:
                return within(what, 10, 13) ? texts.linesOf(what - 10) : NO_SUCH;
        }
    }

    /** Rows of numbers, as many as a limit lets in; made once and used again. */
    private static final class Table {
        final int width;
        final int limit;
        final int[] cells;
        int count;

        Table(int width, int limit) {
            this.width = Math.max(width, 0);
            this.limit = Math.max(limit, 0);
            this.cells = new int[this.width * this.limit];
        }

        int tell(int row, int column) {
            return holds(row, column) ? cells[row * width + column] : 0;
        }

        void put(int row, int column, int v) {
            if (holds(row, column)) {
                cells[row * width + column] = v;
            }
        }

        boolean holds(int row, int column) {
            return row >= 0 && row < limit && column >= 0 && column < width;
        }

        /** Cells beyond the table's width fall away, so that all tables share one way in. */
        int add(int a, int b, int c, int d, int e) {
            if (count >= limit) {
                return NONE;
            }
            put(count, 0, a);
            put(count, 1, b);
            put(count, 2, c);
            put(count, 3, d);
            put(count, 4, e);
            count++;
            return count;
        }

        int empty() {
            count = 0;
            return count;
        }

        void become(Table other) {
            count = other.count;
            System.arraycopy(other.cells, 0, cells, 0, Math.min(cells.length, other.cells.length));
        }
    }

    /** All that a MINUTE or a deed by hand can change: what UNDO gives back, and what a thought runs on. */
    private static final class Scene {
        final int[] rows = new int[MOST_PEOPLE * PERSON_WIDTH];
        int people;
        int word = NONE;
        int wordBy = NONE;
        int last = NONE;
        int lastBy = NONE;
        int asked;
        int right;
        int sunset = 40;
        int minute;
        int day;
        int draws;
        int lines;

        void become(Scene other) {
            System.arraycopy(other.rows, 0, rows, 0, MOST_PEOPLE * PERSON_WIDTH);
            people = other.people;
            word = other.word;
            wordBy = other.wordBy;
            last = other.last;
            lastBy = other.lastBy;
            asked = other.asked;
            right = other.right;
            sunset = other.sunset;
            minute = other.minute;
            day = other.day;
            draws = other.draws;
            lines = other.lines;
        }

        boolean has(int who) {
            return who >= 0 && who < people;
        }

        int tell(int who, int what) {
            if (who < 0 || who >= MOST_PEOPLE || what < 0 || what >= PERSON_WIDTH) {
                return 0;
            }
            return rows[who * PERSON_WIDTH + what];
        }

        void put(int who, int what, int v) {
            if (who >= 0 && who < MOST_PEOPLE && what >= 0 && what < PERSON_WIDTH) {
                rows[who * PERSON_WIDTH + what] = v;
            }
        }

        boolean isUp(int who) {
            return tell(who, AT) >= TOP;
        }

        int manyUp() {
            int many = 0;
            for (int i = AT; i < people * PERSON_WIDTH && i < rows.length; i += PERSON_WIDTH) {
                if (rows[i] >= TOP) {
                    many++;
                }
            }
            return many;
        }

        int allBreath() {
            int sum = 0;
            for (int who = 0; who < people; who++) {
                sum += tell(who, BREATH);
            }
            return sum;
        }

        void changeBreath(int who, int by) {
            put(who, BREATH, Math.max(0, Math.min(FULL_BREATH, tell(who, BREATH) + by)));
        }

        void letGo(int who, int v) {
            put(who, GOING, 1);
            put(who, WORD, v);
        }

        void sendHome(int who) {
            put(who, AT, 0);
            put(who, GOING, 0);
            put(who, WORD, NONE);
        }

        void say(int who, int v) {
            last = v;
            lastBy = who;
            put(who, SAID, tell(who, SAID) + 1);
        }

        int draw(int m) {
            draws = 1664525 * draws + 1013904223;
            return m > 0 ? (draws >>> 8) % m : 0;
        }

        void turnClock() {
            minute++;
            if (minute > LAST_MINUTE) {
                minute = 0;
                last = NONE;
                lastBy = NONE;
                day++;
            }
        }

        /** What a name in THE LAW means; those ahead of "word" are counted as the numbers of a row are. */
        int meaning(int name, int who) {
            switch (name) {
                case NAME_WORD:
                    return Math.max(0, tell(who, WORD));
                case NAME_LEFT:
                    return Math.max(0, sunset - minute);
                case NAME_OTHERS:
                    return tell(who, AT) >= TOP ? manyUp() - 1 : manyUp();
                case NAME_DAY:
                    return day;
                default:
                    return tell(who, name);
            }
        }
    }

    /** The latest scenes that UNDO can go back to. */
    private static final class Past {
        final Scene[] scenes = new Scene[KEPT_STEPS];
        int first;
        int count;

        Past() {
            for (int i = 0; i < KEPT_STEPS; i++) {
                scenes[i] = new Scene();
            }
        }

        void keep(Scene now) {
            if (count < KEPT_STEPS) {
                count++;
            } else {
                first = (first + 1) % KEPT_STEPS;
            }
            newest().become(now);
        }

        boolean goBack(Scene now) {
            if (count < 1) {
                return false;
            }
            now.become(newest());
            count--;
            return true;
        }

        Scene newest() {
            return scenes[Math.floorMod(first + count - 1, KEPT_STEPS)];
        }

        void forget() {
            count = 0;
        }
    }

    /** THE LAW as lines of signs behind their operands, so that no tree is walked in a MINUTE. */
    private static final class Law {
        static final int NAME = 10000;
        static final int PART = 20000;
        static final int JOIN = 30000;
        static final int STACK = 64;

        final Table lines = new Table(4, TEXT_LINES);
        final int[] code = new int[TAPE_LENGTH];
        final int[] stack = new int[STACK];
        int size;

        void clear() {
            lines.empty();
            size = 0;
        }

        void become(Law other) {
            lines.become(other.lines);
            System.arraycopy(other.code, 0, code, 0, TAPE_LENGTH);
            size = other.size;
        }

        void addCode(int c) {
            if (size < code.length) {
                code[size] = c;
                size++;
            }
        }

        int tells(int kind, Scene scene, int who) {
            int most = kind == SAYS ? 1000 : 99;
            for (int i = 0; i < lines.count; i++) {
                int middle = lines.tell(i, 2);
                int end = lines.tell(i, 3);
                if (lines.tell(i, 0) == kind && (middle == end || value(middle, end, scene, who) != 0)) {
                    return Math.max(0, Math.min(most, value(lines.tell(i, 1), middle, scene, who)));
                }
            }
            return untold(kind, scene, who);
        }

        private static int untold(int kind, Scene scene, int who) {
            if (kind == CLIMBS) {
                return 3 + scene.tell(who, LEGS);
            }
            return kind == TIRES ? 2 : 300 + 50 * scene.tell(who, VOICE) + scene.tell(who, BREATH);
        }

        private int value(int from, int to, Scene scene, int who) {
            int end = Math.min(to, size);
            int top = 0;
            for (int i = Math.max(0, from); i < end; i++) {
                int c = code[i];
                if (c < PART) {
                    if (top >= STACK) {
                        return 0;
                    }
                    stack[top] = c < NAME ? c : scene.meaning(c - NAME, who);
                    top++;
                } else if (c <= PART || top < 1) {
                    return 0;
                } else if (c < JOIN) {
                    stack[top - 1] = stack[top - 1] / (c - PART);
                } else if (c == JOIN + Tokens.NOT) {
                    stack[top - 1] = 1 - stack[top - 1];
                } else if (top < 2) {
                    return 0;
                } else {
                    top--;
                    stack[top - 1] = joined(c - JOIN, stack[top - 1], stack[top]);
                }
            }
            return top > 0 ? stack[top - 1] : 0;
        }

        private static int joined(int sign, int a, int b) {
            switch (sign) {
                case '+':
                    return a + b;
                case '-':
                    return a - b;
                case '*':
                    return a * b;
                case '<':
                    return a < b ? 1 : 0;
                case '=':
                    return a == b ? 1 : 0;
                case '>':
                    return a > b ? 1 : 0;
                case Tokens.AND:
                    return a & b;
                default:
                    return a | b;
            }
        }
    }

    /** The four TEXTS as they were told. */
    private static final class Texts {
        final Law law = new Law();
        final Table climbs = new Table(4, TEXT_LINES);
        final Table suns = new Table(2, TEXT_LINES);
        final int[] answers = new int[WORDS];
        int suitLines;

        void clear(int k) {
            if (k == TEXT_LAW) {
                law.clear();
            } else if (k == TEXT_CLIMBS) {
                climbs.empty();
            } else if (k == TEXT_SUNS) {
                suns.empty();
            } else if (k == TEXT_SUITS) {
                Arrays.fill(answers, 0);
                suitLines = 0;
            }
        }

        void adopt(int k, Texts other) {
            if (k == TEXT_LAW) {
                law.become(other.law);
            } else if (k == TEXT_CLIMBS) {
                climbs.become(other.climbs);
            } else if (k == TEXT_SUNS) {
                suns.become(other.suns);
            } else if (k == TEXT_SUITS) {
                System.arraycopy(other.answers, 0, answers, 0, WORDS);
                suitLines = other.suitLines;
            }
        }

        void become(Texts other) {
            for (int k = TEXT_LAW; k <= TEXT_SUITS; k++) {
                adopt(k, other);
            }
        }

        int linesOf(int k) {
            if (k == TEXT_LAW) {
                return law.lines.count;
            }
            return k == TEXT_CLIMBS ? climbs.count : k == TEXT_SUNS ? suns.count : suitLines;
        }

        int answered(int word) {
            return word >= 0 && word < WORDS ? answers[word] : 0;
        }

        boolean suits(int word, int question) {
            return isQuestion(question) && (answered(word) >> question & 1) == 1;
        }

        void addSuit(int word, int question) {
            if (isWord(word) && isQuestion(question)) {
                answers[word] |= 1 << question;
            }
        }
    }

    /** The TAPE and the tokens on it, one at a time. */
    private static final class Tokens {
        static final String LAW_KEYWORDS =
            "climbs tires says when or and not voice legs party breath height word left others day";
        static final String CLIMBS_KEYWORDS = "on person with at";
        static final String SUNS_KEYWORDS = "from set";
        static final String SUITS_KEYWORDS = "word answers";
        static final String SIGNS = ";+-*/()<=>";

        // A sign's kind is its own number, a keyword's is KEY and its place in the text's list.
        static final int END = 0;
        static final int NUMBER = 1;
        static final int BAD = 2;
        static final int KEY = 256;
        static final int WHEN = KEY + 3;
        static final int OR = KEY + 4;
        static final int AND = KEY + 5;
        static final int NOT = KEY + 6;
        static final int FIRST_NAME = KEY + 7;
        static final int LAST_NAME = KEY + 15;
        static final int MOST_DIGITS = 4;

        final int[] tape = new int[TAPE_LENGTH];
        final int[] kinds = new int[TAPE_LENGTH + 1];
        final int[] places = new int[TAPE_LENGTH + 1];
        final int[] values = new int[TAPE_LENGTH + 1];
        int length;
        int count;
        int current;
        int kind;
        int place;
        int value;

        void addNumber(int v) {
            addByte(v >>> 24);
            addByte(v >>> 16);
            addByte(v >>> 8);
            addByte(v);
        }

        private void addByte(int v) {
            if (length >= 0 && length < TAPE_LENGTH) {
                tape[length] = v & 255;
                length++;
            }
        }

        /** Finds all tokens and stands at the first. */
        void scan(String keywords) {
            count = 0;
            int from = 0;
            while (from < length) {
                int sign = signAt(from);
                int behind = from + 1;
                if (isLetter(sign)) {
                    behind = behindLetters(from);
                    addToken(keywordKind(keywords, from, behind), from, 0);
                } else if (isDigit(sign)) {
                    behind = behindDigits(from);
                    addToken(behind - from > MOST_DIGITS ? BAD : NUMBER, from, numberAt(from, behind));
                } else if (!isBlank(sign)) {
                    addToken(SIGNS.indexOf((char) sign) >= 0 ? sign : BAD, from, 0);
                }
                from = behind;
            }
            addToken(END, length, 0);
            current = NONE;
            advance();
        }

        private void addToken(int kind, int place, int value) {
            if (count >= 0 && count <= TAPE_LENGTH) {
                kinds[count] = kind;
                places[count] = place;
                values[count] = value;
                count++;
            }
        }

        /** Stands at the next token; at the end it stays. */
        void advance() {
            if (current < count - 1) {
                current++;
            }
            if (current >= 0 && current <= TAPE_LENGTH) {
                kind = kinds[current];
                place = places[current];
                value = values[current];
            }
        }

        private int behindLetters(int from) {
            int i = from + 1;
            while (i < length && isLetter(signAt(i))) {
                i++;
            }
            return i;
        }

        private int behindDigits(int from) {
            int i = from + 1;
            while (i < length && isDigit(signAt(i))) {
                i++;
            }
            return i;
        }

        private int numberAt(int from, int behind) {
            int number = 0;
            for (int i = from; i < behind && i < from + MOST_DIGITS; i++) {
                number = 10 * number + signAt(i) - '0';
            }
            return number;
        }

        private int keywordKind(String keywords, int from, int behind) {
            int number = 0;
            int start = 0;
            for (int i = 0; i <= keywords.length(); i++) {
                if (i == keywords.length() || keywords.charAt(i) == ' ') {
                    if (i - start == behind - from && stands(keywords, start, from, behind)) {
                        return KEY + number;
                    }
                    number++;
                    start = i + 1;
                }
            }
            return BAD;
        }

        private boolean stands(String keywords, int start, int from, int behind) {
            for (int i = from; i < behind; i++) {
                int j = start + i - from;
                if (j < 0 || j >= keywords.length() || keywords.charAt(j) != signAt(i)) {
                    return false;
                }
            }
            return true;
        }

        private int signAt(int i) {
            return i >= 0 && i < TAPE_LENGTH ? tape[i] : 0;
        }

        private static boolean isBlank(int sign) {
            return sign == 32 || sign == 10;
        }

        private static boolean isLetter(int sign) {
            return within(sign, 'a', 'z') || within(sign, 'A', 'Z');
        }

        private static boolean isDigit(int sign) {
            return within(sign, '0', '9');
        }
    }

    /** Reads the TAPE into a draft, so that a TEXT stays as it was if there is a FAULT. */
    private static final class Reader {
        static final int CANNOT_STAND = 1;
        static final int OUT_OF_BOUNDS = 2;
        static final int TOO_MANY = 3;
        static final int MOST_OPEN = 8;
        // Eight that are open, an "or" and an "and" inside each and outside, and a comparison.
        static final int MOST_WAITING = 3 * MOST_OPEN + 3;

        final Tokens tokens = new Tokens();
        final Texts draft = new Texts();
        final int[] waiting = new int[MOST_WAITING];
        int fault;
        int faultPlace = NONE;
        int got;
        int waits;
        int open;

        /** How many lines; NONE without such a text or with a FAULT. The TAPE is empty in each case. */
        int take(int k, int people) {
            fault = 0;
            faultPlace = NONE;
            boolean fine = within(k, TEXT_LAW, TEXT_SUITS);
            if (fine) {
                draft.clear(k);
                tokens.scan(keywordsOf(k));
            }
            int lines = 0;
            while (fine && lines <= TEXT_LINES && tokens.kind != Tokens.END) {
                fine = startsLine(k, lines) && (k == TEXT_LAW ? readLawLine() : readPlainLine(k, people)) && skip(';');
                lines++;
            }
            tokens.length = 0;
            return fine ? lines : NONE;
        }

        private static String keywordsOf(int k) {
            switch (k) {
                case TEXT_LAW:
                    return Tokens.LAW_KEYWORDS;
                case TEXT_CLIMBS:
                    return Tokens.CLIMBS_KEYWORDS;
                case TEXT_SUNS:
                    return Tokens.SUNS_KEYWORDS;
                default:
                    return Tokens.SUITS_KEYWORDS;
            }
        }

        private boolean startsLine(int k, int before) {
            int lastKey = k == TEXT_LAW ? Tokens.KEY + SAYS : Tokens.KEY;
            if (!within(tokens.kind, Tokens.KEY, lastKey)) {
                return wrong(CANNOT_STAND);
            }
            return before < TEXT_LINES || wrong(TOO_MANY);
        }

        private boolean readPlainLine(int k, int people) {
            switch (k) {
                case TEXT_CLIMBS:
                    return readClimb(people);
                case TEXT_SUNS:
                    return readSun();
                default:
                    return readSuit();
            }
        }

        private boolean wrong(int which) {
            fault = which;
            faultPlace = tokens.place;
            return false;
        }

        private boolean skip(int kind) {
            if (tokens.kind != kind) {
                return wrong(CANNOT_STAND);
            }
            tokens.advance();
            return true;
        }

        private boolean number(int low, int high) {
            if (tokens.kind != Tokens.NUMBER) {
                return wrong(CANNOT_STAND);
            }
            if (!within(tokens.value, low, high)) {
                return wrong(OUT_OF_BOUNDS);
            }
            got = tokens.value;
            tokens.advance();
            return true;
        }

        private boolean keyNumber(int key, int low, int high) {
            return skip(Tokens.KEY + key) && number(low, high);
        }

        private boolean readClimb(int people) {
            if (!keyNumber(0, 0, 999)) {
                return false;
            }
            int day = got;
            if (!keyNumber(1, 0, people - 1)) {
                return false;
            }
            int who = got;
            if (!keyNumber(2, 0, WORDS - 1)) {
                return false;
            }
            int word = got;
            if (!keyNumber(3, 0, LAST_MINUTE)) {
                return false;
            }
            draft.climbs.add(day, who, word, got, 0);
            return true;
        }

        private boolean readSun() {
            if (!keyNumber(0, 0, 999)) {
                return false;
            }
            int day = got;
            if (!keyNumber(1, FIRST_SUNSET, LAST_MINUTE)) {
                return false;
            }
            draft.suns.add(day, got, 0, 0, 0);
            return true;
        }

        private boolean readSuit() {
            if (!keyNumber(0, 0, WORDS - 1)) {
                return false;
            }
            int word = got;
            if (!keyNumber(1, 0, QUESTIONS - 1)) {
                return false;
            }
            draft.addSuit(word, got);
            for (int i = 0; i < TAPE_LENGTH && tokens.kind == Tokens.NUMBER; i++) {
                if (!number(0, QUESTIONS - 1)) {
                    return false;
                }
                draft.addSuit(word, got);
            }
            draft.suitLines++;
            return true;
        }

        private boolean readLawLine() {
            int kind = tokens.kind - Tokens.KEY;
            int from = draft.law.size;
            tokens.advance();
            if (!readSum()) {
                return false;
            }
            int middle = draft.law.size;
            if (tokens.kind == Tokens.WHEN) {
                tokens.advance();
                if (!readCondition()) {
                    return false;
                }
            }
            draft.law.lines.add(kind, from, middle, draft.law.size, 0);
            return true;
        }

        /** B, C by C: what opens or joins waits on a row until what belongs to it is read. */
        private boolean readCondition() {
            waits = 0;
            open = 0;
            boolean more = true;
            for (int i = 0; i < TAPE_LENGTH && more; i++) {
                while (tokens.kind == Tokens.NOT || tokens.kind == '(') {
                    if (open >= MOST_OPEN) {
                        return wrong(TOO_MANY);
                    }
                    open++;
                    await(tokens.kind);
                }
                if (!readSum() || !readComparison() || !readSum()) {
                    return false;
                }
                closeBrackets();
                more = tokens.kind == Tokens.AND || tokens.kind == Tokens.OR;
                if (more) {
                    release(tokens.kind);
                    await(tokens.kind);
                }
            }
            release(Tokens.OR);
            return waits == 0 || wrong(CANNOT_STAND);
        }

        private boolean readComparison() {
            if (!within(tokens.kind, '<', '>')) {
                return wrong(CANNOT_STAND);
            }
            await(tokens.kind);
            return true;
        }

        private void closeBrackets() {
            while (open > 0 && tokens.kind == ')') {
                release(Tokens.OR);
                if (waitingLast() != '(') {
                    return;
                }
                waits--;
                open--;
                tokens.advance();
            }
        }

        private void await(int sign) {
            if (waits >= 0 && waits < MOST_WAITING) {
                waiting[waits] = sign;
                waits++;
            }
            tokens.advance();
        }

        private int waitingLast() {
            return waits > 0 && waits <= MOST_WAITING ? waiting[waits - 1] : Tokens.END;
        }

        /** Puts into the code what waits and binds at least as closely as the sign. */
        private void release(int sign) {
            int last = waitingLast();
            for (int i = 0; i < MOST_WAITING && closeness(last) >= closeness(sign); i++) {
                if (last == Tokens.NOT) {
                    open--;
                }
                waits--;
                draft.law.addCode(Law.JOIN + last);
                last = waitingLast();
            }
        }

        private static int closeness(int sign) {
            switch (sign) {
                case Tokens.OR:
                    return 1;
                case Tokens.AND:
                    return 2;
                case Tokens.NOT:
                    return 3;
                case '<':
                case '=':
                case '>':
                    return 4;
                default:
                    return 0;
            }
        }

        /** E: a + or - waits until the product behind it is read. */
        private boolean readSum() {
            int sum = Tokens.END;
            boolean fine = readUnit();
            for (int i = 0; i < TAPE_LENGTH && fine; i++) {
                int sign = tokens.kind;
                if (sign == '*') {
                    tokens.advance();
                    fine = readUnit();
                    draft.law.addCode(Law.JOIN + sign);
                } else if (sign == '/') {
                    tokens.advance();
                    fine = number(1, 9999);
                    draft.law.addCode(Law.PART + got);
                } else if (sign == '+' || sign == '-') {
                    addSum(sum);
                    sum = sign;
                    tokens.advance();
                    fine = readUnit();
                } else {
                    break;
                }
            }
            addSum(sum);
            return fine;
        }

        private void addSum(int sign) {
            if (sign != Tokens.END) {
                draft.law.addCode(Law.JOIN + sign);
            }
        }

        private boolean readUnit() {
            if (tokens.kind == Tokens.NUMBER) {
                draft.law.addCode(tokens.value);
            } else if (within(tokens.kind, Tokens.FIRST_NAME, Tokens.LAST_NAME)) {
                draft.law.addCode(Law.NAME + tokens.kind - Tokens.FIRST_NAME);
            } else {
                return wrong(CANNOT_STAND);
            }
            tokens.advance();
            return true;
        }
    }

    /** Lets MINUTES go by, in truth (by DRAWS, into THE BOOK) or in thought (by neither). */
    private static final class Sun {
        final Texts texts;
        final Table written;

        Sun(Texts texts, Table written) {
            this.texts = texts;
            this.written = written;
        }

        /** How often something was said in the MINUTE. */
        int pass(Scene scene, boolean real) {
            if (scene.minute == 0) {
                putSunset(scene);
            }
            letClimbersGo(scene);
            int heard = 0;
            for (int who = 0; scene.minute < scene.sunset && who < scene.people; who++) {
                if (scene.tell(who, GOING) != 1) {
                    continue;
                }
                if (!scene.isUp(who)) {
                    climb(scene, who);
                } else if (speaks(scene, who, real)) {
                    heard++;
                }
            }
            if (scene.minute == scene.sunset) {
                fallNight(scene, real);
            }
            scene.turnClock();
            return heard;
        }

        private void putSunset(Scene scene) {
            for (int i = 0; i < texts.suns.count; i++) {
                if (texts.suns.tell(i, 0) == scene.day) {
                    scene.sunset = texts.suns.tell(i, 1);
                }
            }
        }

        private void letClimbersGo(Scene scene) {
            Table climbs = texts.climbs;
            for (int i = 0; i < climbs.count; i++) {
                int who = climbs.tell(i, 1);
                boolean due = climbs.tell(i, 0) == scene.day && climbs.tell(i, 3) == scene.minute;
                if (due && scene.tell(who, GOING) == 0) {
                    scene.letGo(who, climbs.tell(i, 2));
                }
            }
        }

        /** A part of a MINUTE of one below the top. */
        void climb(Scene scene, int who) {
            if (scene.tell(who, BREATH) == 0) {
                scene.changeBreath(who, REST);
                return;
            }
            int climbs = texts.law.tells(CLIMBS, scene, who);
            int tires = texts.law.tells(TIRES, scene, who);
            scene.put(who, AT, Math.min(TOP, scene.tell(who, AT) + climbs));
            scene.changeBreath(who, -tires);
        }

        private boolean speaks(Scene scene, int who, boolean real) {
            int says = texts.law.tells(SAYS, scene, who);
            int tires = texts.law.tells(TIRES, scene, who);
            boolean out = real ? scene.draw(1000) < says : says >= THOUGHT_OF_SAYING;
            if (!out) {
                scene.changeBreath(who, 1);
                return false;
            }
            int word = scene.tell(who, WORD);
            scene.say(who, word);
            scene.changeBreath(who, -tires);
            if (real) {
                note(scene, BOOK_SAID, who, word);
            }
            return true;
        }

        private void fallNight(Scene scene, boolean real) {
            scene.word = scene.last;
            scene.wordBy = scene.lastBy;
            for (int who = 0; who < scene.people; who++) {
                scene.sendHome(who);
                scene.put(who, BREATH, FULL_BREATH);
            }
            if (real) {
                note(scene, BOOK_KEPT, NONE, scene.word);
            }
        }

        void note(Scene scene, int what, int who, int much) {
            // The scene counts the lines, so that UNDO takes them back with all else.
            written.count = scene.lines;
            if (written.add(scene.day, scene.minute, what, who, much) != NONE) {
                scene.lines++;
            }
        }
    }

    /** What is told for thought alone. */
    private static final class Told {
        final Table answers = new Table(2, 10);
        final Table watches = new Table(2, WATCHES);
        final Table steps = new Table(3, 16);
        final Table spelled = new Table(2, SPELLED);
        final Table speakers = new Table(2, SPEAKERS);
        final Table shouts = new Table(1, 12);
        final Table worths = new Table(1, PARTIES);
        int times = 1;
        int more;
        int modulus = MOST_THING + 1;

        void become(Told other) {
            answers.become(other.answers);
            watches.become(other.watches);
            steps.become(other.steps);
            spelled.become(other.spelled);
            speakers.become(other.speakers);
            shouts.become(other.shouts);
            worths.become(other.worths);
            times = other.times;
            more = other.more;
            modulus = other.modulus;
        }
    }

    /** Works out what is asked in thought, on rows of its own. */
    private static final class Muse {
        final Texts texts;
        final Told told;
        final int[] far = new int[PLACES];
        final int[] order = new int[SPEAKERS];
        final int[] bestOrder = new int[SPEAKERS];
        final int[] nim = new int[FULL_BREATH + 1];
        int most;
        int fewest;
        int leastSet;

        Muse(Texts texts, Told told) {
            this.texts = texts;
            this.told = told;
        }

        int bestWord(int questions) {
            int best = 0;
            for (int word = 1; word < WORDS; word++) {
                if (matches(word, questions) > matches(best, questions)) {
                    best = word;
                }
            }
            return best;
        }

        private int matches(int word, int questions) {
            return Integer.bitCount(texts.answered(word) & questions);
        }

        void cover(int questions) {
            fewest = NONE;
            leastSet = NONE;
            coverRest(this, questions, 0, 0);
        }

        /** Some word must answer the least open question, so only those are tried: every fewest set is met. */
        private static void coverRest(Muse muse, int rest, int taken, int count) {
            if (rest == 0) {
                muse.takeCover(taken, count);
                return;
            }
            if (count >= QUESTIONS || muse.fewest != NONE && count >= muse.fewest) {
                return;
            }
            int open = rest & -rest;
            for (int word = 0; word < WORDS; word++) {
                int answered = muse.texts.answered(word);
                if ((answered & open) != 0) {
                    coverRest(muse, rest & ~answered, taken | 1 << word, count + 1);
                }
            }
        }

        private void takeCover(int taken, int count) {
            if (fewest == NONE || count < fewest || count == fewest && taken < leastSet) {
                fewest = count;
                leastSet = taken;
            }
        }

        int wordsThatCould() {
            int words = 0;
            for (int word = 0; word <= WIND; word++) {
                if (agrees(word)) {
                    words |= 1 << word;
                }
            }
            return words;
        }

        private boolean agrees(int word) {
            for (int i = 0; i < told.answers.count; i++) {
                boolean right = told.answers.tell(i, 1) == 1;
                if (texts.suits(word, told.answers.tell(i, 0)) != right) {
                    return false;
                }
            }
            return true;
        }

        int nextQuestion() {
            int words = wordsThatCould();
            int all = Integer.bitCount(words);
            int best = NONE;
            int least = all + 1;
            for (int question = 0; question < QUESTIONS && all >= 2; question++) {
                int right = manyRight(words, question);
                int greater = Math.max(right, all - right);
                if (greater < least) {
                    least = greater;
                    best = question;
                }
            }
            return best;
        }

        private int manyRight(int words, int question) {
            int many = 0;
            for (int word = 0; word < WORDS; word++) {
                if ((words >> word & 1) == 1 && texts.suits(word, question)) {
                    many++;
                }
            }
            return many;
        }

        int fewestWatches(int from) {
            int minute = from;
            int count = 0;
            while (minute <= LAST_MINUTE && count < WATCHES) {
                int reach = furthest(minute);
                if (reach < minute) {
                    return NONE;
                }
                minute = reach + 1;
                count++;
            }
            return minute > LAST_MINUTE ? count : NONE;
        }

        private int furthest(int minute) {
            int reach = NONE;
            for (int i = 0; i < told.watches.count; i++) {
                if (told.watches.tell(i, 0) <= minute) {
                    reach = Math.max(reach, told.watches.tell(i, 1));
                }
            }
            return reach;
        }

        private int leadsTo(int place, int word) {
            for (int i = 0; i < told.steps.count; i++) {
                if (told.steps.tell(i, 0) == place && told.steps.tell(i, 1) == word) {
                    return told.steps.tell(i, 2);
                }
            }
            return NONE;
        }

        int stepsBy(int a, int b, int word) {
            int place = a;
            for (int n = 0; n < PLACES && place != NONE; n++) {
                if (place == b) {
                    return n;
                }
                place = leadsTo(place, word);
            }
            return NONE;
        }

        int stepsByAny(int a, int b) {
            startAt(a);
            for (int n = 0; n < PLACES; n++) {
                for (int i = 0; i < told.steps.count; i++) {
                    int from = told.steps.tell(i, 0);
                    if (farOf(from) == n) {
                        reach(leadsTo(from, told.steps.tell(i, 1)), n + 1);
                    }
                }
            }
            return farOf(b);
        }

        private void startAt(int a) {
            Arrays.fill(far, NONE);
            reach(a, 0);
        }

        private int farOf(int place) {
            return within(place, 0, PLACES - 1) ? far[place] : NONE;
        }

        private void reach(int place, int n) {
            if (within(place, 0, PLACES - 1) && far[place] == NONE) {
                far[place] = n;
            }
        }

        int stepsOver(int a, int b) {
            goOverFrom(a);
            return farOf(b);
        }

        int reachedFrom(int a) {
            goOverFrom(a);
            int many = 0;
            for (int word = 0; word < SPELLED; word++) {
                if (farOf(word) > 0) {
                    many++;
                }
            }
            return many;
        }

        private void goOverFrom(int a) {
            startAt(a);
            for (int n = 0; n < SPELLED; n++) {
                for (int word = 0; word < SPELLED; word++) {
                    if (farOf(word) == n) {
                        reachLikes(word, n + 1);
                    }
                }
            }
        }

        private void reachLikes(int word, int n) {
            for (int other = 0; other < SPELLED; other++) {
                if (oneApart(word, other)) {
                    reach(other, n);
                }
            }
        }

        private boolean oneApart(int word, int other) {
            int letters = told.spelled.tell(word, 0);
            if (letters != told.spelled.tell(other, 0)) {
                return false;
            }
            int a = told.spelled.tell(word, 1);
            int b = told.spelled.tell(other, 1);
            int unlike = 0;
            for (int i = 0; i < letters; i++) {
                if (a % 10 != b % 10) {
                    unlike++;
                }
                a /= 10;
                b /= 10;
            }
            return unlike == 1;
        }

        int mostSpeakers() {
            most = NONE;
            seat(this, 0, 0, 0, 0);
            return most;
        }

        int speakerAt(int i) {
            mostSpeakers();
            return within(i, 0, SPEAKERS - 1) ? bestOrder[i] : NONE;
        }

        /** Orders come as in a list sorted by them; one that can only be as good as the best comes too late. */
        private static void seat(Muse muse, int seated, int place, int time, int spoke) {
            Table speakers = muse.told.speakers;
            if (spoke + speakers.count - place <= muse.most) {
                return;
            }
            if (place >= speakers.count || place < 0 || place >= SPEAKERS) {
                muse.most = spoke;
                System.arraycopy(muse.order, 0, muse.bestOrder, 0, SPEAKERS);
                return;
            }
            for (int i = 0; i < speakers.count; i++) {
                if ((seated >> i & 1) == 1) {
                    continue;
                }
                muse.order[place] = i;
                if (time > speakers.tell(i, 1)) {
                    seat(muse, seated | 1 << i, place + 1, time, spoke);
                } else {
                    seat(muse, seated | 1 << i, place + 1, time + speakers.tell(i, 0), spoke + 1);
                }
            }
        }

        private int follow(int x) {
            return Math.floorMod(told.times * x + told.more, Math.max(1, told.modulus));
        }

        private int first(int x) {
            return Math.floorMod(x, Math.max(1, told.modulus));
        }

        int roundOf(int x) {
            int mark = first(x);
            // Behind as many steps as there are numbers it surely goes round.
            for (int i = 0; i < told.modulus; i++) {
                mark = follow(mark);
            }
            int round = 1;
            int y = follow(mark);
            while (y != mark && round < told.modulus) {
                y = follow(y);
                round++;
            }
            return round;
        }

        int aheadOfRound(int x, int round) {
            int behind = first(x);
            int ahead = behind;
            for (int i = 0; i < round; i++) {
                ahead = follow(ahead);
            }
            int before = 0;
            while (behind != ahead && before < told.modulus) {
                behind = follow(behind);
                ahead = follow(ahead);
                before++;
            }
            return before;
        }

        int heardPrices(int k, boolean sum) {
            int answer = 0;
            for (int i = 0; i < told.shouts.count; i++) {
                if (isHeard(i, k)) {
                    answer += sum ? told.shouts.tell(i, 0) : 1;
                }
            }
            return answer;
        }

        private boolean isHeard(int i, int k) {
            for (int j = Math.max(0, i - k); j < i; j++) {
                if (told.shouts.tell(j, 0) >= told.shouts.tell(i, 0)) {
                    return false;
                }
            }
            return true;
        }

        /** The silent voices leave gaps that hold none, one or two sounding ones: the twos are counted out. */
        static int waysToSound(int gaps, int sounding) {
            int ways = 0;
            for (int twos = 0; twos <= gaps && 2 * twos <= sounding; twos++) {
                ways += choices(gaps, twos) * choices(gaps - twos, sounding - 2 * twos);
            }
            return ways;
        }

        private static int choices(int n, int k) {
            int ways = 1;
            for (int i = 1; i <= k; i++) {
                ways = ways * (n - i + 1) / i;
            }
            return ways;
        }

        int worthOfTwo(Scene scene) {
            int up = 0;
            for (int who = 0; who < scene.people; who++) {
                if (scene.isUp(who)) {
                    up |= 1 << scene.tell(who, PARTY);
                }
            }
            int greatest = NONE;
            for (int a = 0; a < PARTIES; a++) {
                for (int b = a + 1; b < PARTIES; b++) {
                    if ((up >> a & 1) == 1 && (up >> b & 1) == 1) {
                        greatest = Math.max(greatest, told.worths.tell(a, 0) + told.worths.tell(b, 0));
                    }
                }
            }
            return greatest;
        }

        int openingMove(Scene scene, boolean howMany) {
            fillNim();
            int all = 0;
            for (int who = 0; who < scene.people; who++) {
                all ^= nimOf(scene.tell(who, BREATH));
            }
            for (int who = 0; who < scene.people && all != 0; who++) {
                int breath = scene.tell(who, BREATH);
                for (int root = 1; root * root <= breath; root++) {
                    if (nimOf(breath - root * root) == (all ^ nimOf(breath))) {
                        return howMany ? root * root : who;
                    }
                }
            }
            return NONE;
        }

        /** The least number that no take leads to: a heap then plays like a heap of nim of that size. */
        private void fillNim() {
            for (int breath = 0; breath <= FULL_BREATH; breath++) {
                int seen = 0;
                for (int root = 1; root * root <= breath; root++) {
                    seen |= 1 << nim[breath - root * root];
                }
                nim[breath] = Integer.numberOfTrailingZeros(~seen);
            }
        }

        private int nimOf(int breath) {
            return within(breath, 0, FULL_BREATH) ? nim[breath] : 0;
        }
    }

    /** All that is and was told, as it was when THE IMAGE was taken. */
    private static final class Image {
        final Scene scene = new Scene();
        final Texts texts = new Texts();
        final Told told = new Told();
        final Table written = new Table(BOOK_WIDTH, BOOK_LINES);
        boolean there;

        void take(Scene scene, Texts texts, Told told, Table written) {
            this.scene.become(scene);
            this.texts.become(texts);
            this.told.become(told);
            this.written.become(written);
            there = true;
        }

        void giveBack(Scene scene, Texts texts, Told told, Table written) {
            scene.become(this.scene);
            texts.become(this.texts);
            told.become(this.told);
            written.become(this.written);
        }
    }
}
