import java.io.IOException;
import java.lang.reflect.Array;
import java.lang.reflect.Field;
import java.lang.reflect.Modifier;
import java.nio.charset.StandardCharsets;
import java.nio.file.Files;
import java.nio.file.Path;
import java.util.ArrayDeque;
import java.util.Collections;
import java.util.Deque;
import java.util.IdentityHashMap;
import java.util.Random;
import java.util.Set;

/** All that an object takes it takes at once: a few hundred objects and arrays, and no call makes one more. */
public final class RoomTest {
    private static final int MOST_OBJECTS = 400;
    private static final int MOST_ELEMENTS = 14000;
    private static final int CALLS = 512;
    /** As many calls tell the longest text and are made upon it. */
    private static final int CALLS_A_TOWN = 166;

    private final Set<Object> seen = Collections.newSetFromMap(new IdentityHashMap<>());
    private final Deque<Object> ahead = new ArrayDeque<>();
    private int elements;

    public static void main(String[] args) throws IOException, IllegalAccessException {
        Check check = new Check("RoomTest");
        TileHeel x = new TileHeel();
        RoomTest fresh = of(x);
        check.due("objects and arrays: " + fresh.seen.size(), fresh.seen.size() <= MOST_OBJECTS, true);
        check.due("fields and elements: " + fresh.elements, fresh.elements <= MOST_ELEMENTS, true);
        use(x);
        RoomTest used = of(x);
        check.due("fields and elements behind all calls: " + used.elements, used.elements <= fresh.elements, true);
        used.seen.removeAll(fresh.seen);
        check.due("objects that a call has made", used.seen.size(), 0);
        madeAtOnce(check);
        check.close();
    }

    private static void use(TileHeel x) {
        Random random = new Random(5);
        RandomTown towns = new RandomTown(random);
        int calls = 0;
        while (calls + CALLS_A_TOWN <= CALLS) {
            String text = random.nextInt(3) == 0 ? Lives.largest() : towns.right();
            Check.town(x, text);
            calls += (text.length() + 19) / 20 + 2;
            for (int k = 0; k < 6; k++) {
                x.go(k % 3);
                x.night();
                x.patch(k, k + 1);
                x.snow(k);
                x.fire(k, 1);
                x.undo();
                x.way(k, 0);
                x.leave(k, 1);
                x.stopped(k, 1);
                x.opened(k, 1);
                x.broke(k, k, 20);
                x.worth(k, k + 1);
                x.image();
                x.on();
                calls += 14;
            }
        }
    }

    private static RoomTest of(TileHeel x) throws IllegalAccessException {
        RoomTest room = new RoomTest();
        room.meet(x);
        while (!room.ahead.isEmpty()) {
            room.count(room.ahead.pop());
        }
        return room;
    }

    private void meet(Object one) {
        if (one != null && seen.add(one)) {
            ahead.push(one);
        }
    }

    private void count(Object one) throws IllegalAccessException {
        if (one.getClass().isArray()) {
            elements += Array.getLength(one);
            for (int k = 0; k < Array.getLength(one) && !one.getClass().getComponentType().isPrimitive(); k++) {
                meet(Array.get(one, k));
            }
            return;
        }
        for (Field f : one.getClass().getDeclaredFields()) {
            if (!Modifier.isStatic(f.getModifiers())) {
                elements++;
                f.setAccessible(true);
                if (!f.getType().isPrimitive()) {
                    meet(f.get(one));
                }
            }
        }
    }

    /** What a call makes and drops can't be met: so nothing is made but where fields begin, and in one constructor. */
    private static void madeAtOnce(Check check) throws IOException {
        String source = Files.readString(Path.of("src/main/java/TileHeel.java"), StandardCharsets.ISO_8859_1);
        String bare = source.replaceAll("(?s)/\\*.*?\\*/", "").replaceAll("//[^\n]*", "").replaceAll("\"[^\"\n]*\"", "TEXT");
        int made = 0;
        for (String line : bare.split("\n")) {
            if (line.matches(".*\\bnew\\b.*")) {
                boolean field = line.matches(" +(private |final )+[\\w\\[\\]]+ \\w+ = new [^;]*;")
                    || line.equals("    private Town told = new Town();");
                check.due("made where a field begins: " + line.trim(), field || line.trim().equals("past[i] = new Roofs();"), true);
                made++;
            }
            check.due("makes an object: " + line.trim(), line.matches(".*(\\.clone\\(|copyOf|StringBuilder|ArrayList|toCharArray"
                + "|substring).*"), false);
        }
        check.due("places where something is made: " + made, made > 0, true);
    }
}
