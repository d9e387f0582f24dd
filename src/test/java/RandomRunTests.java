import java.lang.reflect.InvocationTargetException;
import java.lang.reflect.Method;
import java.util.ArrayList;
import java.util.Arrays;
import java.util.HashMap;
import java.util.List;
import java.util.Map;
import java.util.Random;
import java.util.TreeMap;

/** Long runs of drawn calls on SaltClouds and on PlainClouds: all answers must be the same. */
public final class RandomRunTests {
    private static final int RUNS = 1200;
    private static final int CALLS = 512;
    private static final int[] STRANGE = {
        Integer.MIN_VALUE, Integer.MAX_VALUE, -1, 0, 1, -1000000001, 1000, 100, 70, 12, 8, 201, 10000
    };

    private final Random draws;
    private final SaltClouds made = new SaltClouds();
    private final PlainClouds due = new PlainClouds();
    private final List<String> calls = new ArrayList<>();
    private static final Map<String, Method> MADE = methodsOf(SaltClouds.class);
    private static final Map<String, Method> DUE = methodsOf(PlainClouds.class);
    private static final Map<String, int[]> SEEN = new TreeMap<>();

    private RandomRunTests(long seed) {
        draws = new Random(seed);
    }

    public static void main(String[] args) throws Exception {
        int runs = args.length > 0 ? Integer.parseInt(args[0]) : RUNS;
        for (int run = 0; run < runs && !Report.hasFailed(); run++) {
            new RandomRunTests(run).go(run);
        }
        for (Map.Entry<String, int[]> seen : SEEN.entrySet()) {
            int[] counts = seen.getValue();
            boolean neverRefuses = List.of("check", "image", "paid", "pay", "seed").contains(seen.getKey());
            Report.dueThat(counts[0] > 0 && (neverRefuses || counts[1] > 0),
                seen.getKey() + " was answered " + counts[0] + " times, refused " + counts[1] + " times");
        }
        Report.dueThat(SEEN.size() == MADE.size(), "not every act was drawn");
        Report.end("RandomRunTests");
    }

    private static Map<String, Method> methodsOf(Class<?> type) {
        Map<String, Method> methods = new HashMap<>();
        for (Method method : type.getDeclaredMethods()) {
            if (java.lang.reflect.Modifier.isPublic(method.getModifiers())) {
                methods.put(method.getName(), method);
            }
        }
        return methods;
    }

    private void go(int run) throws Exception {
        while (calls.size() < CALLS && !Report.hasFailed()) {
            step(run);
        }
    }

    /** Calls both; beyond the 512 calls nothing is promised. */
    private int call(String name, Object... args) throws Exception {
        if (calls.size() >= CALLS) {
            return 0;
        }
        int want = (int) invoke(DUE.get(name), due, args);
        int got = (int) invoke(MADE.get(name), made, args);
        calls.add(name + Arrays.toString(args) + " = " + want);
        SEEN.computeIfAbsent(name, n -> new int[2])[want < -1000000000 ? 1 : 0]++;
        Report.dueThat(got == want,
            name + Arrays.toString(args) + " answered " + got + ", due is " + want + "; the run:\n"
            + (got == want ? "" : String.join("\n", calls)));
        return want;
    }

    private static Object invoke(Method method, Object on, Object[] args) throws Exception {
        try {
            return method.invoke(on, args);
        } catch (InvocationTargetException e) {
            throw new IllegalStateException(method + " threw for " + Arrays.toString(args), e.getCause());
        }
    }

    private int in(int least, int most) {
        return least + draws.nextInt(most - least + 1);
    }

    /** Mostly within, now and then just beside it, seldom anything. */
    private int near(int least, int most) {
        int luck = draws.nextInt(60);
        if (luck == 0) {
            return STRANGE[draws.nextInt(STRANGE.length)];
        }
        if (luck == 1) {
            return draws.nextBoolean() ? least - 1 : most + 1;
        }
        if (luck < 8) {
            return draws.nextBoolean() ? least : most;
        }
        return in(least, most);
    }

    private int any() {
        return draws.nextBoolean() ? in(-20, 1200) : draws.nextInt();
    }

    private int one() {
        return near(0, Math.max(0, due.count(0) - 1));
    }

    private int hours() {
        return draws.nextInt(4) == 0 ? near(1, 200) : near(1, 9);
    }

    private int water() {
        return draws.nextInt(3) > 0 ? near(0, 60) : near(0, 999);
    }

    private void step(int run) throws Exception {
        if (calls.size() < 12 && draws.nextInt(3) > 0) {
            call("cloud", near(0, 69), near(0, run % 3 == 0 ? 2 : 11), water());
            return;
        }
        switch (draws.nextInt(12)) {
            case 0, 1 -> ofClouds();
            case 2 -> changes();
            case 3 -> meetings();
            case 4 -> texts();
            case 5 -> passing();
            case 6 -> guesses();
            case 7 -> sheets();
            case 8 -> usesOfSheets();
            case 9 -> checks();
            case 10 -> voices();
            default -> others();
        }
    }

    private void ofClouds() throws Exception {
        switch (draws.nextInt(4)) {
            case 0 -> call("cloud", near(0, 69), near(0, 11), water());
            case 1 -> call("as", one(), near(0, 6));
            default -> {
                int cloud = one();
                for (int what = 0; what < 12; what += in(1, 5)) {
                    call("ofCloud", cloud, what);
                }
                call("ofCloud", cloud, near(0, 11));
            }
        }
    }

    private void changes() throws Exception {
        switch (draws.nextInt(5)) {
            case 0 -> call("become", one(), near(0, 69));
            case 1 -> call("hill", near(0, 11), near(0, 9));
            case 2 -> call("wind", near(0, 7), near(-3, 3));
            default -> {
                int what = near(0, 4);
                int v = what == 0 ? near(0, 11) : what == 1 ? water() : near(0, draws.nextBoolean() ? 30 : 99);
                call("set", one(), what, v);
            }
        }
    }

    private void meetings() throws Exception {
        int cloud = one();
        int other = one();
        if (draws.nextInt(4) == 0) {
            call("set", cloud, 0, near(0, 11));
            call("set", other, 0, due.peek(cloud, 2));
        }
        switch (draws.nextInt(5)) {
            case 0 -> call("join", cloud, other);
            case 1, 2 -> call("part", cloud, other);
            default -> call("meets", cloud, other);
        }
    }

    private String drawnText(String names, int room) {
        if (room <= 1 || draws.nextInt(4) == 0) {
            return draws.nextInt(3) == 0 ? String.valueOf(near(0, 9999)) : names.substring(in(0, 2)).substring(0, 1);
        }
        return switch (draws.nextInt(6)) {
            case 0 -> "!" + drawnText(names, room - 1);
            case 1 -> "(" + drawnText(names, room - 2) + ")";
            default -> drawnText(names, room / 2) + "|&<=>+-*/%%--++".charAt(draws.nextInt(15))
                + drawnText(names, room / 2);
        };
    }

    private String spoiled(String text, String names) {
        StringBuilder b = new StringBuilder(text);
        String signs = names + "0123456789()!|&<=>+-*/% twsabh\u0000\u00ff";
        for (int i = in(1, 2); i > 0; i--) {
            char sign = signs.charAt(draws.nextInt(signs.length()));
            int at = draws.nextInt(b.length() + 1);
            if (draws.nextBoolean() || at == b.length()) {
                b.insert(at, sign);
            } else if (draws.nextBoolean()) {
                b.setCharAt(at, sign);
            } else {
                b.deleteCharAt(at);
            }
        }
        return b.toString();
    }

    private void texts() throws Exception {
        int use = near(0, 1);
        String names = use == 1 ? "abh" : "tws";
        String text = drawnText(names, in(1, 16));
        if (draws.nextInt(3) == 0) {
            text = spoiled(text, names);
        }
        for (int at = 0; at < text.length() && at < 60; at += 8) {
            int n = Math.min(8, text.length() - at);
            long word = draws.nextLong();
            for (int i = n - 1; i >= 0; i--) {
                word = word << 8 | text.charAt(at + i);
            }
            call("feed", word, n);
        }
        if (draws.nextInt(40) == 0) {
            call("feed", draws.nextLong(), near(1, 8));
        }
        if (draws.nextInt(30) == 0) {
            return;
        }
        call("text", use);
        for (int i = 0; i < 3; i++) {
            call("law", use, any(), any(), any());
        }
    }

    private void passing() throws Exception {
        switch (draws.nextInt(4)) {
            case 0 -> call("loose", hours());
            case 1 -> call("pay");
            default -> call("hours", hours());
        }
        call("count", near(0, 9));
    }

    private void guesses() throws Exception {
        switch (draws.nextInt(9)) {
            case 0 -> call("nobodyBy", one());
            case 1 -> call("first");
            case 2 -> {
                int[] sums = due.peekTogether(draws.nextInt(256));
                int salts = 100 * (sums[1] + sums[2] + sums[3]);
                call("comes", Math.min(9999, salts / Math.max(1, sums[0])), near(0, 1));
            }
            case 3 -> call("comes", near(0, 120), near(0, 1));
            case 4 -> call("stays", near(0, 3));
            case 5 -> call("paid");
            case 6 -> call("sun", one(), near(1, 99), near(0, 1));
            case 7 -> call("then", near(0, 200), one(), near(2, 8));
            default -> call("then", near(0, 9), one(), near(2, 8));
        }
    }

    private void sheets() throws Exception {
        int sheet = near(0, 3);
        call("sheet", sheet, draws.nextInt(25) == 0 ? any() : new int[] {0, 8, 16, 32, 32}[in(0, 4)],
            draws.nextInt(3) == 0 ? near(0, 40) : near(0, 8));
        for (int i = in(0, 6); i > 0; i--) {
            call("put", sheet, near(0, 7), draws.nextBoolean() ? near(0, 11) : any());
        }
        for (int i = in(0, 3); i > 0; i--) {
            call("move", near(0, 3), near(0, 5), near(0, 3), near(0, 5), near(0, 4));
        }
    }

    private void usesOfSheets() throws Exception {
        int sheet = in(0, 3);
        int bits = in(1, 3) == 1 ? 16 : 32;
        switch (draws.nextInt(5)) {
            case 0 -> {
                call("sheet", sheet, bits, 4);
                int[] sums = due.peekTogether(draws.nextInt(256));
                for (int i = 0; i < 4; i++) {
                    call("put", sheet, i, sums[i] + (draws.nextInt(30) == 0 ? 1 : 0));
                }
                call("storm", sheet, near(0, 1));
                call("storm", near(0, 3), near(0, 1));
            }
            case 1 -> {
                int cloud = one();
                int place = due.peek(cloud, 2);
                int n = in(1, 10);
                call("sheet", sheet, 8 * (1 << in(0, 2)), n);
                int kind = due.peek(cloud, 0);
                for (int i = 0; i < n; i++) {
                    int most = kind == 6 ? 0 : kind == 1 || kind == 4 ? 1 : 3;
                    int step = in(-most, most) * (kind == 2 || kind == 5 ? 2 : 1);
                    place = Math.floorMod(place + step + (draws.nextInt(20) == 0 ? 1 : 0), 12);
                    call("put", sheet, i, place);
                }
                call("winds", cloud, sheet, near(0, 7));
                call("winds", one(), near(0, 3), near(0, 7));
            }
            case 2 -> {
                int n = due.count(0) + (draws.nextInt(4) == 0 ? in(-1, 1) : 0);
                call("sheet", sheet, bits, n);
                for (int i = 0; i < n; i++) {
                    call("put", sheet, i, due.peek(i, 3) + (draws.nextInt(20) == 0 ? 1 : 0));
                }
                call("judge", sheet);
                call("judge", near(0, 3));
            }
            case 3 -> call("judge", near(0, 3));
            default -> call("hills", near(0, 3));
        }
    }

    private void checks() throws Exception {
        if (draws.nextInt(3) > 0) {
            call("tell", any());
        }
        if (draws.nextInt(3) > 0) {
            call("check");
            int n = in(1, 6);
            for (int h = 1; h <= n; h++) {
                call("tell", due.peekWaters(h) + (draws.nextInt(20) == 0 ? 1 : 0));
            }
            call("check");
        }
        if (draws.nextInt(40) == 0) {
            for (int i = 0; i < 22; i++) {
                call("tell", any());
            }
        }
    }

    private void voices() throws Exception {
        call("voice", one(), near(0, 3), any());
        for (int i = 0; i < 10; i += in(1, 3)) {
            call("trace", i);
        }
        call("trace", near(0, 9));
    }

    private void others() throws Exception {
        switch (draws.nextInt(6)) {
            case 0 -> call("seed", any());
            case 1 -> call("image");
            case 2 -> call("restore");
            case 3 -> call("told", near(1, 5));
            default -> call("count", near(0, 9));
        }
    }
}
