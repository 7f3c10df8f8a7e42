import java.lang.reflect.InvocationTargetException;
import java.lang.reflect.Method;
import java.util.ArrayList;
import java.util.Arrays;
import java.util.HashMap;
import java.util.List;
import java.util.Map;
import java.util.Random;

/** Random runs of calls, each call made on the class and on the PlainModel; all answers must be the same. */
public final class ModelTest {
    private static final Map<String, Method> OURS = new HashMap<>();
    private static final Map<String, Method> MODEL = new HashMap<>();
    private static final List<String> NAMES = new ArrayList<>();

    private final Random random;
    private LateStamps ours = new LateStamps();
    private PlainModel model = new PlainModel();
    private final List<String> run = new ArrayList<>();
    private int keys = 3;

    private ModelTest(long seed) {
        random = new Random(seed);
    }

    public static void main(String[] args) throws Exception {
        for (Method m : LateStamps.class.getDeclaredMethods()) {
            if (java.lang.reflect.Modifier.isPublic(m.getModifiers())) {
                OURS.put(m.getName(), m);
                MODEL.put(m.getName(), PlainModel.class.getMethod(m.getName(), m.getParameterTypes()));
                NAMES.add(m.getName());
            }
        }
        java.util.Collections.sort(NAMES);
        if (NAMES.size() != 38) throw new AssertionError("the face has " + NAMES.size() + " methods");
        int runs = args.length > 1 ? Integer.parseInt(args[1]) : 60;
        for (int seed = 0; seed < runs; seed++) {
            new ModelTest(seed).wholeRun(seed);
        }
        for (int seed = 0; seed < 20 * runs; seed++) {
            new ModelTest(seed).textRun();
        }
        System.out.println("the class answers as the model does");
    }

    // ---- one call on both ----

    private long answer(Object on, Method method, Object[] args) throws Exception {
        try {
            Object answer = method.invoke(on, args);
            return answer instanceof Boolean ? ((Boolean) answer ? 1 : 0) : ((Number) answer).longValue();
        } catch (InvocationTargetException e) {
            if (e.getCause().getClass() == java.util.NoSuchElementException.class) return Long.MIN_VALUE;
            e.getCause().printStackTrace();
            fail("threw " + e.getCause());
            return 0;
        }
    }

    private long both(String name, Object... args) throws Exception {
        run.add(name + Arrays.toString(args));
        long got = answer(ours, OURS.get(name), args);
        long want = answer(model, MODEL.get(name), args);
        if (got != want) fail("answered " + got + ", due is " + want);
        run.set(run.size() - 1, name + Arrays.toString(args) + " = " + got);
        return got;
    }

    private void fail(String what) {
        for (String call : run) if (!call.startsWith("*")) System.out.println(call);
        System.out.println("the last call " + what);
        System.exit(1);
    }

    private void feed(String text) throws Exception {
        for (int from = 0; from < text.length(); from += 20) {
            int[] words = new int[5];
            for (int i = 0; i < 20 && from + i < text.length(); i++) {
                words[i / 4] |= (text.charAt(from + i) & 255) << 24 - i % 4 * 8;
            }
            both("feed", words[0], words[1], words[2], words[3], words[4]);
        }
    }

    // ---- texts ----

    private boolean chance(int percent) {
        return random.nextInt(100) < percent;
    }

    private String storeText() {
        List<String> clauses = new ArrayList<>();
        keys = 1 + random.nextInt(6);
        for (int i = 0; i < keys; i++) clauses.add(chance(50) ? "k" : "kv" + random.nextInt(100));
        if (chance(80)) {
            List<String> items = new ArrayList<>();
            if (chance(60)) items.add("m" + (2 + random.nextInt(8)));
            if (chance(60)) items.add("p" + random.nextInt(2));
            if (chance(60)) items.add("t" + (2 + random.nextInt(19)));
            java.util.Collections.shuffle(items, random);
            clauses.add(random.nextInt(clauses.size() + 1), "s" + String.join("", items));
        }
        return String.join(";", clauses);
    }

    private String scriptText(int most, int seats) {
        List<String> steps = new ArrayList<>();
        int length = 1 + random.nextInt(most);
        int from = random.nextInt(9 - seats);
        for (int i = 0; i < length; i++) {
            int seat = chance(3) ? random.nextInt(10) : from + random.nextInt(seats);
            int key = chance(3) ? random.nextInt(10) : random.nextInt(keys);
            int kind = i < seats ? 0 : random.nextInt(12);
            if (kind <= 1) steps.add("o" + (i < seats ? from + i : seat) + (chance(2) ? 2 : random.nextInt(2)));
            else if (kind <= 4) steps.add("r" + seat + key);
            else if (kind <= 7) steps.add("w" + seat + key + ":" + random.nextInt(100));
            else if (kind <= 9) steps.add("c" + seat);
            else if (kind == 10) steps.add("a" + seat);
            else steps.add("p");
        }
        return String.join(";", steps);
    }

    private String blanked(String text) {
        StringBuilder out = new StringBuilder();
        for (int i = 0; i < text.length(); i++) {
            boolean inNumber = i > 0 && Character.isDigit(text.charAt(i)) && Character.isDigit(text.charAt(i - 1));
            if (chance(15) && !inNumber) out.append(' ');
            out.append(text.charAt(i));
        }
        return out.toString();
    }

    private String spoilt(String text) {
        StringBuilder out = new StringBuilder(text);
        String signs = "skmptvorwca:;; 0123456789x";
        for (int i = 0; i <= random.nextInt(3); i++) {
            int at = random.nextInt(out.length() + 1);
            int how = random.nextInt(5);
            char sign = chance(3) ? (char) (1 + random.nextInt(255)) : signs.charAt(random.nextInt(signs.length()));
            if (how == 0) out.insert(at, sign);
            else if (how == 1 && at < out.length()) out.setCharAt(at, sign);
            else if (how == 2 && at < out.length()) out.deleteCharAt(at);
            else if (how == 3) out.setLength(at);
            else out.append(chance(50) ? ";" : "").append(sign);
        }
        return out.toString();
    }

    private void textRun() throws Exception {
        String text = chance(50) ? storeText() : scriptText(17, 1 + random.nextInt(3));
        if (chance(50)) text = blanked(text);
        if (chance(70)) text = spoilt(text);
        feed(text);
        both("fault", 0);
        both("fault", 1);
        both("text", random.nextInt(4) - 1);
        both("count", 2);
        both("text", random.nextInt(2));
        both("count", 0);
        both("count", 1);
        for (int i = 0; i < 3; i++) both("rule", i);
        for (int i = 0; i < 17; i++) for (int what = 0; what < 4; what++) both("step", 0, i, what);
    }

    private void tell(String text, int sort) throws Exception {
        both("end", 0);
        feed(text);
        both("fault", sort);
        both("text", sort);
    }

    // ---- whole runs ----

    private int seat() {
        return chance(2) ? random.nextInt(12) - 2 : random.nextInt(8);
    }

    private int key() {
        return chance(3) ? random.nextInt(9) - 1 : random.nextInt(keys);
    }

    private void wholeRun(long seed) throws Exception {
        if (chance(10)) for (int i = 0; i < 10; i++) anyCall();
        tell(storeText(), 0);
        int styles = random.nextInt(4);
        int calls = 300;
        for (int i = 0; i < calls; i++) {
            if (chance(1) && chance(30)) tell(storeText(), 0);
            if (chance(3)) tell(scriptText(chance(70) ? 6 : 16, 1 + random.nextInt(2)), 1);
            if (styles == 0 && chance(10)) both("years", 1 + random.nextInt(40), random.nextLong());
            oneAct();
            if (chance(20)) anyCall();
            if (chance(30)) look();
        }
        look();
        while (both("undo") >= 0) if (chance(30)) look();
        look();
    }

    private void oneAct() throws Exception {
        switch (random.nextInt(26)) {
            case 0: case 1: case 2: case 3: both("open", seat(), chance(2) ? 2 : random.nextInt(2)); break;
            case 4: case 5: both("openAt", seat(), random.nextInt(2), handStamp()); break;
            case 6: case 7: case 8: case 9: case 10: both("read", seat(), key()); break;
            case 11: case 12: case 13: case 14: case 15:
                both("write", seat(), key(), chance(2) ? random.nextInt(300) - 100 : random.nextInt(100)); break;
            case 16: case 17: case 18: case 19: both("commit", seat()); break;
            case 20: both("abort", seat()); break;
            case 21: case 22: both("retry", seat()); break;
            case 23: if (chance(30)) both("prune"); break;
            case 24: both("undo"); break;
            default: if (chance(50)) both("perform", random.nextInt(5) - 1);
        }
    }

    private int handStamp() throws Exception {
        int clock = (int) both("all", 11);
        int floor = (int) both("all", 12);
        return floor - 1 + random.nextInt(Math.max(1, clock - floor + 3));
    }

    private void anyCall() throws Exception {
        String name = NAMES.get(random.nextInt(NAMES.size()));
        if (name.equals("feed") || name.equals("text") || name.equals("end")) return;
        if (name.equals("back") && chance(70)) return;
        Class<?>[] types = OURS.get(name).getParameterTypes();
        Object[] args = new Object[types.length];
        for (int i = 0; i < args.length; i++) {
            if (types[i] == long.class) args[i] = random.nextLong();
            else args[i] = chance(3) ? random.nextInt() : chance(10) ? random.nextInt(200) : random.nextInt(10) - 1;
        }
        both(name, args);
    }

    /** Everything that can be asked. */
    private void look() throws Exception {
        for (int what = -1; what < 15; what++) both("all", what);
        for (int what = 0; what < 6; what++) both("count", what);
        for (int what = 0; what < 4; what++) both("status", what);
        for (int seat = 0; seat < 8; seat++) lookAtSeat(seat);
        for (int key = 0; key < keys; key++) lookAtKey(key);
        for (int i = 0; i < 61; i++) for (int what = 0; what < 3; what++) both("log", i, what);
        if (chance(20)) for (int one = 0; one < 4; one++) lookAtScripts(one);
    }

    private void lookAtSeat(int seat) throws Exception {
        for (int what = 0; what < 5; what++) both("seat", seat, what);
        both("falls", seat);
        both("sures", seat);
        both("retries", seat);
        if (chance(20)) both("odds", seat, random.nextInt(101));
        for (int key = 0; key < keys; key++) {
            both("readBy", seat, key);
            both("would", seat, key, 0);
            both("would", seat, key, 1);
        }
        for (int i = 0; i < 13; i++) for (int what = 0; what < 3; what++) both("deed", seat, i, what);
    }

    private void lookAtKey(int key) throws Exception {
        both("versions", key);
        for (int i = 0; i < 10; i++) for (int what = 0; what < 4; what++) both("version", key, i, what);
        both("since", key, 0);
        both("since", key, 1);
        both("shares", key, random.nextInt(1000));
        for (int i = 0; i < 5; i++) both("asOf", key, random.nextInt(1 + (int) both("all", 11) + 5));
    }

    private void lookAtScripts(int one) throws Exception {
        both("run", one, 0);
        both("run", one, 1);
        int other = random.nextInt(4);
        for (int what = 0; what < 4; what++) both("mix", one, other, what);
    }
}
