import java.util.ArrayList;
import java.util.Arrays;
import java.util.List;

/**
 * The document once more, as plainly as the whole Java library allows, to compare SaltClouds with.
 * It shares no way of working with it: kinds are classes, texts are worked out from their letters.
 */
public final class PlainClouds {
    private static final int LOW = -1000000000;
    private static final int BEYOND = 1;
    private static final int NONE = 2;
    private static final int STATE = 3;
    private static final int FULL = 4;
    private static final int KIND = 5;

    /** What answers an ERROR throws, so that each act reads like its promise. */
    private static final class Refused extends RuntimeException {
        private static final long serialVersionUID = 1L;
        final int k;

        Refused(int k) {
            super(null, null, false, false);
            this.k = k;
        }
    }

    private interface Act {
        int go();
    }

    private static class Kind {
        List<Integer> trace = new ArrayList<>();
        int n;
        int m;

        int drift(int v) { return v; }
        int rain(int h) { return 2 * h; }
        boolean keeps(int salt) { return true; }
        int drifts(int x) { trace.add(10); return x + n; }
        int rains(int x) { trace.add(11); return drifts(x) * 2; }
        int tastes(int x) { trace.add(12); return x - m; }
        int tells(int x) { trace.add(13); return rains(x) ^ tastes(x); }
    }

    private static class Mist extends Kind {
        @Override int drift(int v) { return (int) Math.signum(v) * (Math.abs(v) / 2); }
        @Override int rain(int h) { return 0; }
        @Override int drifts(int x) { trace.add(20); return super.drifts(x) * 3; }
    }

    private static class Storm extends Kind {
        @Override int drift(int v) { return v + v; }
        @Override int rain(int h) { return super.rain(h) + m; }
        @Override boolean keeps(int salt) { return salt != 2; }
        @Override int rains(int x) { trace.add(30); return super.rains(x) - tastes(1); }
    }

    private static class Saint extends Kind {
        @Override int rain(int h) { return Math.max(0, super.rain(h) - m); }
        @Override boolean keeps(int salt) { return salt != 0; }
        @Override int tastes(int x) { trace.add(40); return -super.tastes(x); }
    }

    private static final class Veil extends Mist {
        @Override int drift(int v) { return super.drift(v) + m % 2; }
        @Override int tells(int x) { trace.add(50); return super.tells(x) - drifts(2); }
    }

    private static final class Feud extends Storm {
        @Override int rain(int h) { return 2 * super.rain(h); }
        @Override boolean keeps(int salt) { return super.keeps(salt) && salt != 1; }
        @Override int rains(int x) { trace.add(60); return super.rains(x + 1); }
    }

    private static final class Beach extends Saint {
        @Override int drift(int v) { return 0; }
        @Override int tastes(int x) { trace.add(70); return super.tastes(x) ^ n; }
        @Override int tells(int x) { trace.add(71); return rains(x) - super.tells(x); }
    }

    private static final class Being {
        int number;
        int kind;
        int m;
        int place;
        int water;
        int[] salts = new int[3];
        boolean there = true;

        Being copy() {
            Being b = new Being();
            b.number = number;
            b.kind = kind;
            b.m = m;
            b.place = place;
            b.water = water;
            b.salts = salts.clone();
            b.there = there;
            return b;
        }

        Kind asKind() {
            Kind k = switch (kind) {
                case 1 -> new Mist();
                case 2 -> new Storm();
                case 3 -> new Saint();
                case 4 -> new Veil();
                case 5 -> new Feud();
                case 6 -> new Beach();
                default -> new Kind();
            };
            k.n = number;
            k.m = m;
            return k;
        }

        int taste() {
            return taste(Arrays.stream(salts).sum(), water);
        }

        static int taste(int salts, int water) {
            if (water == 0) {
                return 9999;
            }
            int taste = 100 * salts / water;
            return taste > 9999 ? 9999 : taste;
        }
    }

    private static final class World {
        List<Being> all = new ArrayList<>();
        int[] heights = new int[12];
        int[] winds = new int[8];
        int hour;
        int sea;
        int z = 1;
        String tape = "";
        String[] texts = new String[2];
        List<Integer> waits = new ArrayList<>();

        World copy() {
            World w = new World();
            for (Being b : all) {
                w.all.add(b.copy());
            }
            w.heights = heights.clone();
            w.winds = winds.clone();
            w.hour = hour;
            w.sea = sea;
            w.z = z;
            w.tape = tape;
            w.texts = texts.clone();
            w.waits = new ArrayList<>(waits);
            return w;
        }

        int name(Being b) {
            return law(0, b.taste(), b.water, b.salts[0]);
        }

        int law(int use, int a, int b, int c) {
            String text = texts[use];
            if (text == null) {
                text = use == 0 ? "t/10" : "(a>b)*(a-b)%9";
            }
            int answer = PlainTexts.work(text, use == 0 ? "tws" : "abh", a, b, c);
            return use == 0 ? answer : Math.min(99, Math.max(0, answer));
        }

        boolean nobody(Being b) {
            return !b.there || name(b) == 0;
        }

        int nobodies() {
            return (int) all.stream().filter(this::nobody).count();
        }

        void hour(int wind) {
            for (Being b : all) {
                if (!b.there) {
                    continue;
                }
                Kind k = b.asKind();
                b.place = (b.place + k.drift(wind) + 24) % 12;
                int h = heights[b.place];
                if (h == 0) {
                    b.water = Math.min(999, b.water + 1 - b.m % 2);
                    continue;
                }
                int rain = Math.min(b.water, k.rain(h));
                b.water -= rain;
                sea = Math.min(999999, sea + rain);
                for (int s = 0; s < 3; s++) {
                    if (rain > 0 && !k.keeps(s)) {
                        b.salts[s] -= b.salts[s] / 10;
                    }
                }
            }
            hour++;
        }

        World after(int n) {
            World w = copy();
            for (int i = 0; i < n; i++) {
                w.hour(w.winds[w.hour % 8]);
            }
            return w;
        }

        int pay() {
            int went = 0;
            for (Being a : all) {
                for (Being b : all) {
                    if (a != b && a.there && b.there && a.place == b.place) {
                        int goes = Math.min(a.water, law(1, name(a), name(b), heights[a.place]));
                        went += goes;
                        a.water -= goes;
                        b.water = Math.min(999, b.water + goes);
                    }
                }
            }
            return went;
        }

        /** All sets of those that are THERE, as bits, the empty one too. */
        List<Integer> sets() {
            List<Integer> sets = new ArrayList<>(List.of(0));
            for (Being b : all) {
                if (b.there) {
                    for (int s : new ArrayList<>(sets)) {
                        sets.add(s | 1 << b.number);
                    }
                }
            }
            sets.sort(null);
            return sets;
        }

        int[] together(int set) {
            int[] sums = new int[4];
            for (Being b : all) {
                if ((set & 1 << b.number) != 0) {
                    sums[0] += b.water;
                    for (int s = 0; s < 3; s++) {
                        sums[s + 1] += b.salts[s];
                    }
                }
            }
            return sums;
        }
    }

    private World world = new World();
    private World image;
    private int images;
    private final long[][] sheets = new long[4][];
    private final int[] widths = new int[4];
    private List<Integer> trace = new ArrayList<>();
    private final int[] tolds = new int[6];

    private int act(Act act) {
        try {
            return act.go();
        } catch (Refused r) {
            tolds[r.k]++;
            return LOW - r.k;
        }
    }

    private static void ask(boolean holds, int k) {
        if (!holds) {
            throw new Refused(k);
        }
    }

    private static boolean in(int v, int least, int most) {
        return least <= v && v <= most;
    }

    private Being being(int cloud) {
        ask(in(cloud, 0, world.all.size() - 1), BEYOND);
        return world.all.get(cloud);
    }

    public int cloud(int km, int place, int water) {
        return act(() -> {
            ask(in(km, 0, 69) && in(place, 0, 11) && in(water, 0, 999), BEYOND);
            ask(world.all.size() < 8, FULL);
            Being b = new Being();
            b.number = world.all.size();
            b.kind = km / 10;
            b.m = km % 10;
            b.place = place;
            b.water = water;
            world.all.add(b);
            return b.number;
        });
    }

    public int ofCloud(int cloud, int what) {
        return act(() -> {
            being(cloud);
            ask(in(what, 0, 11), BEYOND);
            return fact(world, cloud, what);
        });
    }

    private static int fact(World w, int cloud, int what) {
        Being b = w.all.get(cloud);
        return switch (what) {
            case 0 -> b.kind;
            case 1 -> b.m;
            case 2 -> b.place;
            case 3 -> b.water;
            case 4, 5, 6 -> b.salts[what - 4];
            case 7 -> b.there ? 1 : 0;
            case 8 -> b.taste();
            case 9 -> w.name(b);
            case 10 -> b.asKind().drift(w.winds[w.hour % 8]);
            default -> w.heights[b.place] == 0 ? 0
                : Math.min(b.water, b.asKind().rain(w.heights[b.place]));
        };
    }

    /** Only looks, for drawing calls that hit: 0 where there is nothing to see. */
    int peek(int cloud, int what) {
        return in(cloud, 0, world.all.size() - 1) ? fact(world, cloud, what) : 0;
    }

    int[] peekTogether(int set) {
        return world.together(set);
    }

    int peekWaters(int hours) {
        return world.after(hours).together(255)[0];
    }

    public int become(int cloud, int km) {
        return act(() -> {
            Being b = being(cloud);
            ask(in(km, 0, 69), BEYOND);
            int was = b.kind;
            b.kind = km / 10;
            b.m = km % 10;
            return was;
        });
    }

    public int as(int cloud, int kind) {
        return act(() -> {
            Being b = being(cloud);
            ask(in(kind, 0, 6), BEYOND);
            Being wanted = new Being();
            wanted.kind = kind;
            ask(wanted.asKind().getClass().isInstance(b.asKind()), KIND);
            return b.m;
        });
    }

    public int set(int cloud, int what, int v) {
        return act(() -> {
            Being b = being(cloud);
            ask(in(what, 0, 4), BEYOND);
            ask(in(v, 0, what == 0 ? 11 : what == 1 ? 999 : 99), BEYOND);
            ask(b.there, STATE);
            int was = fact(world, cloud, what + 2);
            if (what == 0) {
                b.place = v;
            } else if (what == 1) {
                b.water = v;
            } else {
                b.salts[what - 2] = v;
            }
            return was;
        });
    }

    public int hill(int place, int v) {
        return act(() -> {
            ask(in(place, 0, 11) && in(v, 0, 9), BEYOND);
            int was = world.heights[place];
            world.heights[place] = v;
            return was;
        });
    }

    public int wind(int h, int v) {
        return act(() -> {
            ask(in(h, 0, 7) && in(v, -3, 3), BEYOND);
            int was = world.winds[h];
            world.winds[h] = v;
            return was;
        });
    }

    public int join(int cloud, int other) {
        return act(() -> {
            Being a = being(cloud);
            Being b = being(other);
            ask(a != b, BEYOND);
            ask(a.there && b.there, STATE);
            ask(a.place == b.place, STATE);
            a.water = Math.min(999, a.water + b.water);
            for (int s = 0; s < 3; s++) {
                a.salts[s] = Math.min(99, a.salts[s] + b.salts[s]);
            }
            b.there = false;
            b.water = 0;
            b.salts = new int[3];
            return a.water;
        });
    }

    public int part(int cloud, int other) {
        return act(() -> {
            Being a = being(cloud);
            Being b = being(other);
            ask(a != b, BEYOND);
            ask(a.there && !b.there, STATE);
            b.there = true;
            b.place = a.place;
            b.water = a.water / 2;
            a.water -= a.water / 2;
            for (int s = 0; s < 3; s++) {
                b.salts[s] = a.salts[s] / 2;
                a.salts[s] -= a.salts[s] / 2;
            }
            return b.water;
        });
    }

    public int feed(long word, int n) {
        return act(() -> {
            ask(in(n, 1, 8), BEYOND);
            ask(world.tape.length() + n <= 50, FULL);
            long left = word;
            for (int i = 0; i < n; i++) {
                world.tape += (char) (left & 255);
                left >>= 8;
            }
            return world.tape.length();
        });
    }

    public int text(int use) {
        return act(() -> {
            ask(in(use, 0, 1), BEYOND);
            String text = world.tape;
            world.tape = "";
            int fault = PlainTexts.fault(text, use == 0 ? "tws" : "abh");
            if (fault >= 0) {
                return -10 - fault;
            }
            world.texts[use] = text;
            return 1;
        });
    }

    public int law(int use, int a, int b, int c) {
        return act(() -> {
            ask(in(use, 0, 1), BEYOND);
            return world.law(use, a, b, c);
        });
    }

    public int hours(int n) {
        return act(() -> {
            ask(in(n, 1, 200), BEYOND);
            ask(world.hour + n <= 9999, STATE);
            world = world.after(n);
            return world.nobodies();
        });
    }

    public int loose(int n) {
        return act(() -> {
            ask(in(n, 1, 200), BEYOND);
            ask(world.hour + n <= 9999, STATE);
            for (int i = 0; i < n; i++) {
                world.z = (int) (world.z * 1103515245L + 12345L);
                world.hour((int) ((world.z & 0xFFFFFFFFL) / 256 % 7) - 3);
            }
            return world.nobodies();
        });
    }

    public int then(int n, int cloud, int what) {
        return act(() -> {
            being(cloud);
            ask(in(n, 0, 200) && List.of(2, 3, 4, 5, 6, 8).contains(what), BEYOND);
            return fact(world.after(n), cloud, what);
        });
    }

    public int pay() {
        return world.pay();
    }

    public int nobodyBy(int cloud) {
        return act(() -> {
            being(cloud);
            World w = world.copy();
            for (int h = 0; h <= 200; h++) {
                if (w.nobody(w.all.get(cloud))) {
                    return h;
                }
                w = w.after(1);
            }
            throw new Refused(NONE);
        });
    }

    public int first() {
        return act(() -> {
            int best = -1;
            int soonest = 201;
            for (Being b : world.all) {
                World w = world;
                for (int h = 0; b.there && h < soonest; h++) {
                    if (w.nobody(w.all.get(b.number))) {
                        soonest = h;
                        best = b.number;
                    }
                    w = w.after(1);
                }
            }
            ask(best >= 0, NONE);
            return best;
        });
    }

    public int comes(int taste, int what) {
        return act(() -> {
            ask(in(taste, 0, 9999) && in(what, 0, 1), BEYOND);
            for (int many = 1; many <= 8; many++) {
                for (int set : world.sets()) {
                    int[] sums = world.together(set);
                    int has = Being.taste(sums[1] + sums[2] + sums[3], sums[0]);
                    if (Integer.bitCount(set) == many && has == taste) {
                        return what == 0 ? set : many;
                    }
                }
            }
            throw new Refused(NONE);
        });
    }

    public int stays(int what) {
        return act(() -> {
            ask(in(what, 0, 3), BEYOND);
            return world.together(255)[what];
        });
    }

    public int meets(int cloud, int other) {
        return act(() -> {
            Being a = being(cloud);
            Being b = being(other);
            ask(a != b, BEYOND);
            ask(a.there && b.there, STATE);
            World w = world;
            for (int h = 0; h <= 200; h++) {
                if (w.all.get(cloud).place == w.all.get(other).place) {
                    return h;
                }
                w = w.after(1);
            }
            throw new Refused(NONE);
        });
    }

    public int storm(int sheet, int what) {
        return act(() -> {
            ask(in(sheet, 0, 3) && in(what, 0, 1), BEYOND);
            ask(sheets[sheet] != null && sheets[sheet].length == 4, NONE);
            List<Integer> found = new ArrayList<>();
            for (int set : world.sets()) {
                int[] sums = world.together(set);
                boolean fits = set != 0;
                for (int i = 0; i < 4; i++) {
                    fits &= sums[i] == sheets[sheet][i];
                }
                if (fits) {
                    found.add(set);
                }
            }
            ask(!found.isEmpty(), NONE);
            return what == 0 ? found.get(0) : found.size();
        });
    }

    public int paid() {
        return world.copy().pay();
    }

    public int sun(int cloud, int v, int what) {
        return act(() -> {
            Being b = being(cloud);
            ask(in(v, 1, 99) && in(what, 0, 1), BEYOND);
            for (int minute = 0;; minute++) {
                for (int s = 0; s < 3; s++) {
                    if (b.salts[s] - minute * (s + 1) < v) {
                        return what == 0 ? s : minute;
                    }
                }
            }
        });
    }

    public int winds(int cloud, int sheet, int i) {
        return act(() -> {
            Being b = being(cloud);
            ask(in(sheet, 0, 3) && in(i, 0, 7), BEYOND);
            ask(b.there, STATE);
            ask(sheets[sheet] != null && i < sheets[sheet].length, NONE);
            int place = b.place;
            List<Integer> winds = new ArrayList<>();
            for (int k = 0; k < 8 && k < sheets[sheet].length; k++) {
                int known = winds.size();
                for (int v = 3; v >= -3; v--) {
                    if ((place + b.asKind().drift(v) + 24) % 12 == sheets[sheet][k]) {
                        if (winds.size() > known) {
                            winds.remove(known);
                        }
                        winds.add(v);
                    }
                }
                ask(winds.size() > known, NONE);
                place = (int) sheets[sheet][k];
            }
            return winds.get(i);
        });
    }

    public int seed(int v) {
        int was = world.z;
        world.z = v;
        return was;
    }

    public int voice(int cloud, int act, int x) {
        return act(() -> {
            Being b = being(cloud);
            ask(in(act, 0, 3), BEYOND);
            Kind k = b.asKind();
            trace = k.trace;
            return switch (act) {
                case 0 -> k.drifts(x);
                case 1 -> k.rains(x);
                case 2 -> k.tastes(x);
                default -> k.tells(x);
            };
        });
    }

    public int trace(int i) {
        return act(() -> {
            ask(in(i, 0, trace.size() - 1) && i < 40, NONE);
            return trace.get(i);
        });
    }

    public int sheet(int sheet, int bits, int n) {
        return act(() -> {
            ask(in(sheet, 0, 3) && List.of(0, 8, 16, 32).contains(bits), BEYOND);
            ask(bits == 0 || n >= 0, STATE);
            ask(bits == 0 || n <= 40, BEYOND);
            widths[sheet] = bits;
            sheets[sheet] = bits == 0 ? null : new long[n];
            return 1;
        });
    }

    public int put(int sheet, int i, int v) {
        return act(() -> {
            ask(in(sheet, 0, 3), BEYOND);
            ask(sheets[sheet] != null, NONE);
            ask(in(i, 0, sheets[sheet].length - 1), BEYOND);
            int spare = 64 - widths[sheet];
            sheets[sheet][i] = (long) v << spare >> spare;
            return 1;
        });
    }

    public int move(int sheet, int i, int other, int j, int n) {
        return act(() -> {
            ask(in(sheet, 0, 3) && in(other, 0, 3), BEYOND);
            ask(sheets[sheet] != null && sheets[other] != null, NONE);
            ask(widths[sheet] == widths[other], KIND);
            ask(n >= 0 && i >= 0 && j >= 0, BEYOND);
            ask((long) i + n <= sheets[sheet].length, BEYOND);
            ask((long) j + n <= sheets[other].length, BEYOND);
            long[] were = sheets[sheet].clone();
            for (int k = 0; k < n; k++) {
                sheets[other][j + k] = were[i + k];
            }
            return n;
        });
    }

    public int hills(int sheet) {
        return act(() -> {
            ask(in(sheet, 0, 3), BEYOND);
            ask(sheets[sheet] != null, NONE);
            for (int k = 0; k < 12; k++) {
                if (k == sheets[sheet].length || sheets[sheet][k] < 0 || sheets[sheet][k] > 9) {
                    return k;
                }
                world.heights[k] = (int) sheets[sheet][k];
            }
            return 12;
        });
    }

    public int judge(int sheet) {
        return act(() -> {
            ask(in(sheet, 0, 3), BEYOND);
            ask(sheets[sheet] != null, NONE);
            return Arrays.mismatch(sheets[sheet],
                world.all.stream().mapToLong(b -> b.water).toArray());
        });
    }

    public int image() {
        image = world.copy();
        return ++images;
    }

    public int restore() {
        return act(() -> {
            ask(image != null, NONE);
            world = image.copy();
            return world.hour;
        });
    }

    public int tell(int v) {
        return act(() -> {
            ask(world.waits.size() < 20, FULL);
            world.waits.add(v);
            return world.waits.size();
        });
    }

    public int check() {
        List<Integer> waits = world.waits;
        world.waits = new ArrayList<>();
        for (int i = 0; i < waits.size(); i++) {
            if (world.after(i + 1).together(255)[0] != waits.get(i)) {
                return i + 1;
            }
        }
        return 0;
    }

    public int count(int what) {
        return act(() -> switch (what) {
            case 0 -> world.all.size();
            case 1 -> world.hour;
            case 2 -> world.sea;
            case 3 -> (int) world.all.stream().filter(b -> b.there).count();
            case 4 -> world.nobodies();
            case 5 -> world.all.stream().mapToInt(b -> b.water).sum();
            case 6 -> world.tape.length();
            case 7 -> world.waits.size();
            case 8 -> Math.min(40, trace.size());
            case 9 -> world.z;
            default -> throw new Refused(BEYOND);
        });
    }

    public int told(int k) {
        return act(() -> {
            ask(in(k, 1, 5), BEYOND);
            return tolds[k];
        });
    }
}
