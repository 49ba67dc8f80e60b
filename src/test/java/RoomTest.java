import java.io.IOException;
import java.lang.reflect.Array;
import java.lang.reflect.Field;
import java.lang.reflect.Modifier;
import java.nio.file.Files;
import java.nio.file.Path;
import java.util.ArrayDeque;
import java.util.Collections;
import java.util.Deque;
import java.util.IdentityHashMap;
import java.util.Set;
import java.util.regex.Matcher;
import java.util.regex.Pattern;

/** LANGUAGE.md, rule 12: what a run makes is counted. A hill is made small, and its calls make nothing more. */
public final class RoomTest {
    private static final int MOST_OBJECTS = 150;
    private static final int MOST_NUMBERS = 7300;

    private RoomTest() {
    }

    public static void main(String[] args) throws IOException, IllegalAccessException {
        LastWordHill hill = new LastWordHill();
        Set<Object> atFirst = reached(hill);
        Check.due("objects of a new hill, " + atFirst.size(), atFirst.size() <= MOST_OBJECTS, true);
        int numbers = numbersIn(atFirst);
        Check.due("fields and elements of a new hill, " + numbers, numbers <= MOST_NUMBERS, true);
        use(hill);
        Set<Object> later = reached(hill);
        Check.due("objects of a used hill", later.size(), atFirst.size());
        Check.due("they are those that it was made with", atFirst.containsAll(later), true);
        madeOnlyInConstructors();
        Check.finish();
    }

    private static void use(LastWordHill hill) {
        for (int i = 0; i < 10; i++) {
            hill.person(i, 9, i % 4);
            hill.act(1, i, i);
        }
        Check.tell(hill, 0, "climbs 20 when not (breath < 3 or left > 50) and legs > 1; says 900;");
        Check.tell(hill, 3, "word 3 answers 1 2; word 4 answers 3;");
        hill.image(true);
        for (int i = 0; i < 12; i++) {
            hill.minutes(60);
            hill.ask(i);
            hill.goes(60, 3);
            hill.keeps(1);
            hill.answer(i, true);
            hill.watch(i, 59);
            hill.step(i, i, 0);
            hill.spell(i, 1, i % 10);
            hill.speaker(i + 1, 50);
            hill.price(i);
            hill.worth(i, i);
        }
        Check.due("lines of THE BOOK, so that they were used", hill.look(8) > 100, true);
        int answers = hill.fits(14, 3) + hill.could(1) + hill.guard(0, -1) + hill.down(1, 0, -1) + hill.over(0, -1)
            + hill.council(0) + hill.thing(7, 0) + hill.prices(2, 1) + hill.bell(12, 6) + hill.worths() + hill.game(0);
        Check.due("thoughts are answered", answers != 0, true);
        hill.undo();
        hill.image(false);
    }

    private static Set<Object> reached(Object from) throws IllegalAccessException {
        Set<Object> seen = Collections.newSetFromMap(new IdentityHashMap<>());
        Deque<Object> open = new ArrayDeque<>();
        open.add(from);
        while (!open.isEmpty()) {
            Object o = open.remove();
            if (!seen.add(o)) {
                continue;
            }
            if (o instanceof Object[] row) {
                for (Object part : row) {
                    addTo(open, part);
                }
            }
            for (Field f : o.getClass().getDeclaredFields()) {
                if (!Modifier.isStatic(f.getModifiers()) && !f.getType().isPrimitive()) {
                    f.setAccessible(true);
                    addTo(open, f.get(o));
                }
            }
        }
        return seen;
    }

    private static void addTo(Deque<Object> open, Object part) {
        if (part != null) {
            open.add(part);
        }
    }

    private static int numbersIn(Set<Object> objects) {
        int many = 0;
        for (Object o : objects) {
            if (o.getClass().isArray()) {
                many += Array.getLength(o);
            }
            for (Field f : o.getClass().getDeclaredFields()) {
                many += Modifier.isStatic(f.getModifiers()) ? 0 : 1;
            }
        }
        return many;
    }

    /** Each "new" begins a final field's value, or stands in a constructor. */
    private static void madeOnlyInConstructors() throws IOException {
        String source = Files.readString(Path.of("src/main/java/LastWordHill.java"));
        String rest = source.replaceAll("(?s)/\\*.*?\\*/", "").replaceAll("//[^\n]*", "")
            .replaceAll("(?m)^ +final [\\w\\[\\]]+ \\w+ = new [^;]+;$", "")
            .replaceAll("(?ms)^( +)(?:public )?[A-Z]\\w*\\([^)]*\\) \\{$.*?^\\1\\}$", "");
        Matcher m = Pattern.compile("(?m)^.*\\bnew\\b.*$").matcher(rest);
        int found = 0;
        while (m.find()) {
            found++;
            Check.due("made by a call: " + m.group().strip(), found, 0);
        }
        Check.due("made by calls", found, 0);
    }
}
