import java.io.IOException;
import java.util.function.Supplier;

/** Each sentence of promises 27 to 40, draws, voices, sheets, images, what is told, at its edges. */
public final class SheetEdgeTests {
    private SheetEdgeTests() {
    }

    public static void main(String[] args) throws IOException {
        Edges.open(args);
        seed();
        voice();
        trace();
        sheet();
        put();
        move();
        hills();
        judge();
        image();
        restore();
        tell();
        check();
        count();
        told();
        Edges.end("SheetEdgeTests", 27, 40);
    }

    private static void seed() {
        Edges.promise(27);
        Edges.says("z becomes v: what it was (any number).");
        SaltClouds c = new SaltClouds();
        Edges.due(c.seed(Edges.MOST), 1);
        Edges.due(c.seed(Edges.LEAST), Edges.MOST);
        Edges.due(c.seed(Edges.BEYOND), Edges.LEAST);
        Edges.due(c.seed(0), Edges.BEYOND);
        Edges.due(c.told(1), 0);
        c.loose(1);
        Edges.due(c.seed(-1), 12345);
        c.loose(1);
        Edges.due(c.seed(0), -1103515245 + 12345);
    }

    private static void voice() {
        Edges.promise(28);
        Edges.says("A VOICE of a CLOUD: any number.");
        SaltClouds c = Edges.clouds(9, 0, 0, 9, 0, 0, 9, 0, 0);
        c.join(0, 2);
        Edges.due(c.voice(0, 0, Edges.MOST), Edges.MOST);
        Edges.due(c.voice(1, 0, Edges.MOST), Edges.LEAST);
        Edges.due(c.voice(2, 0, Edges.MOST), Edges.LEAST + 1);
        Edges.due(c.voice(1, 1, Edges.MOST), 0);
        Edges.due(c.voice(0, 1, 1 << 30), Edges.LEAST);
        Edges.due(c.voice(0, 2, Edges.LEAST), Edges.MOST - 8);
        Edges.due(c.voice(0, 3, Edges.LEAST), Edges.MOST - 8);
        Edges.due(c.voice(0, 0, Edges.BEYOND), Edges.BEYOND);
        Edges.due(c.told(1), 0);
        c.become(0, 31);
        Edges.due(c.voice(0, 2, Edges.LEAST + 1), Edges.LEAST);
        c.become(0, 10);
        Edges.due(c.voice(0, 0, Edges.MOST), Edges.MOST - 2);
        c.become(0, 50);
        Edges.due(c.voice(0, 1, Edges.MOST), -1);

        Edges.says("BEYOND.");
        for (int cloud : Edges.NO_CLOUDS) {
            Edges.refused(Edges.BEYOND, d -> d.voice(cloud, 0, 1));
        }
        for (int act : new int[] {-1, 4, Edges.LEAST, Edges.MOST}) {
            Edges.refused(Edges.BEYOND, d -> d.voice(0, act, 1));
        }
    }

    private static void trace() {
        Edges.promise(29);
        Edges.says("THE TRACE's i-th.");
        SaltClouds c = Edges.clouds(65, 0, 0);
        c.voice(0, 3, 1);
        int[] bodies = {71, 11, 10, 13, 11, 10, 70, 40, 12};
        for (int i = 0; i < bodies.length; i++) {
            Edges.due(c.trace(i), bodies[i]);
        }
        Edges.due(c.count(8), bodies.length);
        c.voice(0, 0, 1);
        Edges.due(c.trace(0), 10);
        Edges.due(c.count(8), 1);

        Edges.says("NONE: there is none such.");
        Edges.due(c.trace(1), Edges.NONE);
        Edges.refused(SaltClouds::new, Edges.NONE, d -> d.trace(0));
        for (int i : new int[] {-1, 6, 39, 40, Edges.LEAST, Edges.MOST}) {
            Edges.refused(Edges.NONE, d -> d.trace(i));
        }
        Edges.due(Edges.sky().trace(5), 12);
    }

    private static void sheet() {
        Edges.promise(30);
        Edges.says("A SHEET has n numbers, all 0, of so many bits (8, 16, 32; 0: it is missing, n doesn't matter): 1.");
        for (int sheet : new int[] {0, 3}) {
            for (int bits : new int[] {8, 16, 32}) {
                SaltClouds c = new SaltClouds();
                Edges.due(c.sheet(sheet, bits, 40), 1);
                Edges.due(c.put(sheet, 39, 5), 1);
                Edges.due(c.sheet(sheet, bits, 12), 1);
                Edges.due(c.hills(sheet), 12);
                Edges.due(c.put(sheet, 0, 5), 1);
                Edges.due(c.sheet(sheet, bits, 1), 1);
                Edges.due(c.hills(sheet), 1);
                Edges.due(c.hill(0, 0), 0);
                Edges.due(c.sheet(sheet, bits, 40), 1);
                Edges.due(c.move(sheet, 39, sheet, 0, 1), 1);
                Edges.due(c.hills(sheet), 12);
                Edges.due(c.hill(0, 0), 0);
                Edges.due(c.sheet(sheet, bits, 0), 1);
                Edges.due(c.judge(sheet), -1);
                for (int n : new int[] {0, 1, -1, 41, Edges.LEAST, Edges.MOST}) {
                    c.sheet(sheet, bits, 2);
                    Edges.due(c.sheet(sheet, 0, n), 1);
                    Edges.due(c.judge(sheet), Edges.NONE);
                }
            }
        }

        Edges.says("BEYOND.");
        for (int sheet : Edges.NO_SHEETS) {
            Edges.refused(Edges.BEYOND, d -> d.sheet(sheet, 8, 1));
            Edges.refused(Edges.BEYOND, d -> d.sheet(sheet, 0, 1));
            Edges.refused(Edges.BEYOND, d -> d.sheet(sheet, 8, -1));
        }
        for (int bits : new int[] {-8, -1, 1, 7, 9, 15, 17, 24, 31, 33, 64, Edges.LEAST, Edges.MOST}) {
            Edges.refused(Edges.BEYOND, d -> d.sheet(1, bits, 1));
            Edges.refused(Edges.BEYOND, d -> d.sheet(1, bits, -1));
        }
        for (int bits : new int[] {8, 16, 32}) {
            Edges.refused(Edges.BEYOND, d -> d.sheet(1, bits, 41));
            Edges.refused(Edges.BEYOND, d -> d.sheet(1, bits, Edges.MOST));
        }

        Edges.says("STATE: n is below 0 (ahead of BEYOND of n).");
        for (int bits : new int[] {8, 16, 32}) {
            Edges.refused(Edges.STATE, d -> d.sheet(1, bits, -1));
            Edges.refused(Edges.STATE, d -> d.sheet(3, bits, Edges.LEAST));
        }
    }

    private static int stored(int bits, int v, int water) {
        SaltClouds c = Edges.clouds(0, 0, water);
        c.sheet(2, bits, 1);
        c.put(2, 0, v);
        return c.judge(2);
    }

    private static void put() {
        Edges.promise(31);
        Edges.says("Number i of a SHEET becomes v (its lowest bits): 1.");
        SaltClouds c = new SaltClouds();
        for (int bits : new int[] {8, 16, 32}) {
            c.sheet(0, bits, 40);
            c.sheet(3, bits, 1);
            Edges.due(c.put(0, 0, 1), 1);
            Edges.due(c.put(0, 39, Edges.MOST), 1);
            Edges.due(c.put(0, 20, Edges.LEAST), 1);
            Edges.due(c.put(3, 0, Edges.BEYOND), 1);
        }
        Edges.due(stored(8, 127, 127), -1);
        Edges.due(stored(8, 256 + 127, 127), -1);
        Edges.due(stored(8, -256, 0), -1);
        Edges.due(stored(8, Edges.LEAST + 5, 5), -1);
        Edges.due(stored(8, 300, 300), 0);
        Edges.due(stored(8, 300, 44), -1);
        Edges.due(stored(16, 999, 999), -1);
        Edges.due(stored(16, 65536 + 999, 999), -1);
        Edges.due(stored(16, Edges.LEAST + 999, 999), -1);
        Edges.due(stored(32, 999, 999), -1);
        Edges.due(stored(32, 65536 + 999, 999), 0);
        Edges.due(stored(32, Edges.LEAST + 999, 999), 0);

        Edges.says("BEYOND: no such SHEET.");
        for (int sheet : Edges.NO_SHEETS) {
            Edges.refused(Edges.BEYOND, d -> d.put(sheet, 0, 9));
        }

        Edges.says("NONE: it is missing.");
        for (int i : new int[] {0, -1, 40, Edges.LEAST, Edges.MOST}) {
            Edges.refused(Edges.NONE, d -> d.put(3, i, 9));
        }

        Edges.says("BEYOND: no such number.");
        for (int i : new int[] {5, 39, 40, -1, Edges.LEAST, Edges.MOST}) {
            Edges.refused(Edges.BEYOND, d -> d.put(0, i, 9));
        }
        Edges.refused(Edges.BEYOND, d -> d.put(2, 0, 9));
        Edges.due(Edges.sky().put(0, 4, 9), 1);
    }

    private static void heights(SaltClouds c, int sheet, int... want) {
        Edges.due(c.hills(sheet), want.length);
        for (int i = 0; i < want.length; i++) {
            Edges.due(c.hill(i, 0), want[i]);
        }
    }

    private static SaltClouds pair(int bits) {
        SaltClouds c = new SaltClouds();
        Edges.sheet(c, 1, bits, 1, 2, 3, 4, 5);
        Edges.sheet(c, 3, bits, 6, 7, 8);
        return c;
    }

    private static void move() {
        Edges.promise(32);
        Edges.says("n numbers of a SHEET, from number i on, come to another one (or the same), from its number j on, as they "
            + "all were: n.");
        for (int bits : new int[] {8, 16, 32}) {
            SaltClouds c = pair(bits);
            Edges.due(c.move(1, 0, 3, 0, 3), 3);
            heights(c, 3, 1, 2, 3);
            Edges.due(c.move(1, 4, 3, 2, 1), 1);
            heights(c, 3, 1, 2, 5);
            heights(c, 1, 1, 2, 3, 4, 5);
            Edges.due(c.move(1, 0, 1, 1, 4), 4);
            heights(c, 1, 1, 1, 2, 3, 4);
            Edges.due(c.move(1, 2, 1, 0, 3), 3);
            heights(c, 1, 2, 3, 4, 3, 4);
            Edges.due(c.move(1, 0, 1, 0, 5), 5);
            heights(c, 1, 2, 3, 4, 3, 4);
            Edges.due(c.move(1, 0, 3, 0, 0), 0);
            Edges.due(c.move(1, 5, 3, 3, 0), 0);
            heights(c, 3, 1, 2, 5);
            c.sheet(0, bits, 0);
            Edges.due(c.move(0, 0, 1, 0, 0), 0);
            Edges.due(c.move(1, 0, 0, 0, 0), 0);
            Edges.due(c.move(0, 0, 0, 0, 0), 0);
        }

        Edges.says("BEYOND: no such SHEET.");
        for (int sheet : Edges.NO_SHEETS) {
            Edges.refused(Edges.BEYOND, d -> d.move(sheet, 0, 0, 0, 1));
            Edges.refused(Edges.BEYOND, d -> d.move(0, 0, sheet, 0, 1));
            Edges.refused(Edges.BEYOND, d -> d.move(3, 0, sheet, 0, 1));
            Edges.refused(Edges.BEYOND, d -> d.move(sheet, 0, 3, 0, 1));
        }

        Edges.says("NONE: one is missing.");
        Edges.refused(Edges.NONE, d -> d.move(3, 0, 0, 0, 1));
        Edges.refused(Edges.NONE, d -> d.move(0, 0, 3, 0, 1));
        Edges.refused(Edges.NONE, d -> d.move(3, 0, 3, 0, 0));
        Edges.refused(Edges.NONE, d -> d.move(3, -1, 0, -1, -1));

        Edges.says("KIND: they are of unlike bits.");
        int[][] unlike = {{0, 1}, {1, 0}, {0, 2}, {2, 0}, {1, 2}, {2, 1}};
        for (int[] two : unlike) {
            Edges.refused(Edges.KIND, d -> d.move(two[0], 0, two[1], 0, 0));
            Edges.refused(Edges.KIND, d -> d.move(two[0], -1, two[1], 0, 1));
            Edges.refused(Edges.KIND, d -> d.move(two[0], 0, two[1], 0, 99));
        }

        Edges.says("BEYOND: n, i, or j is below 0, or they don't stand there.");
        int[][] beside = {{0, 0, -1}, {-1, 0, 1}, {0, -1, 1}, {-1, 0, 0}, {0, -1, 0}, {0, 0, 4}, {3, 0, 3}, {5, 0, 1},
            {6, 0, 0}, {0, 1, 3}, {0, 3, 1}, {0, 4, 0}, {Edges.MOST, 0, 1}, {0, Edges.MOST, 1}, {0, 0, Edges.MOST},
            {1, 1, Edges.MOST}, {Edges.MOST, Edges.MOST, Edges.MOST}, {Edges.LEAST, 0, 1}, {0, Edges.LEAST, 1},
            {0, 0, Edges.LEAST}, {Edges.LEAST, Edges.LEAST, Edges.LEAST}};
        for (int[] run : beside) {
            Supplier<SaltClouds> world = () -> pair(16);
            Edges.refused(world, Edges.BEYOND, d -> d.move(1, run[0], 3, run[1], run[2]));
        }
        Edges.refused(() -> pair(8), Edges.BEYOND, d -> d.move(1, 0, 1, 1, 5));
        Edges.refused(() -> pair(8), Edges.BEYOND, d -> d.move(1, 1, 1, 0, 5));
    }

    private static void hills() {
        Edges.promise(33);
        Edges.says("Numbers of a SHEET become HEIGHTS of PLACES 0, 1, ..: how many, up to the first that is not 0 to 9 (no "
            + "ERROR then), or that is beyond the last PLACE.");
        for (int bits : new int[] {8, 16, 32}) {
            for (int bad : new int[] {10, -1, 127, -128}) {
                SaltClouds c = new SaltClouds();
                for (int place = 0; place < 12; place++) {
                    c.hill(place, 4);
                }
                Edges.sheet(c, 0, bits, 0, 9, bad, 5);
                Edges.due(c.hills(0), 2);
                int[] heights = {0, 9, 4, 4};
                for (int place = 0; place < heights.length; place++) {
                    Edges.due(c.hill(place, 4), heights[place]);
                }
                Edges.sheet(c, 0, bits, bad, 5);
                Edges.due(c.hills(0), 0);
                Edges.due(c.hill(0, 4), 4);
                Edges.due(c.hill(1, 4), 4);
                Edges.due(c.told(1), 0);
            }
        }
        SaltClouds most = new SaltClouds();
        most.hill(11, 3);
        Edges.sheet(most, 3, 32, 9, 8, 7, 6, 5, 4, 3, 2, 1, 0, 9);
        Edges.due(most.hills(3), 11);
        Edges.due(most.hill(11, 3), 3);
        Edges.sheet(most, 3, 32, 9, 8, 7, 6, 5, 4, 3, 2, 1, 0, 9, 8);
        heights(most, 3, 9, 8, 7, 6, 5, 4, 3, 2, 1, 0, 9, 8);
        Edges.sheet(most, 3, 32, 9, 8, 7, 6, 5, 4, 3, 2, 1, 0, 9, 8, 7);
        heights(most, 3, 9, 8, 7, 6, 5, 4, 3, 2, 1, 0, 9, 8);
        most.sheet(3, 8, 40);
        Edges.due(most.hills(3), 12);
        most.hill(0, 5);
        most.sheet(3, 8, 0);
        Edges.due(most.hills(3), 0);
        Edges.due(most.hill(0, 5), 5);

        Edges.says("BEYOND: no such SHEET.");
        for (int sheet : Edges.NO_SHEETS) {
            Edges.refused(Edges.BEYOND, d -> d.hills(sheet));
        }

        Edges.says("NONE: it is missing.");
        Edges.refused(Edges.NONE, d -> d.hills(3));
    }

    private static void judge() {
        Edges.promise(34);
        Edges.says("Numbers of a SHEET are WATERS of CLOUDS 0, 1, ..: the first that isn't so (one that lacks, or is too many, "
            + "too); -1: all are.");
        SaltClouds c = new SaltClouds();
        c.sheet(0, 16, 0);
        Edges.due(c.judge(0), -1);
        c.sheet(0, 16, 1);
        Edges.due(c.judge(0), 0);
        c = Edges.clouds(0, 0, 999, 0, 0, 0, 0, 0, 5);
        int[][] rows = {{999, 0, 5}, {999, 0}, {999}, {}, {999, 0, 5, 0}, {999, 0, 4}, {998, 0, 5}, {999, 1, 5, 7}, {999, 0, 4, 0}};
        int[] firsts = {-1, 2, 1, 0, 3, 2, 0, 1, 2};
        for (int i = 0; i < rows.length; i++) {
            Edges.sheet(c, 0, 16, rows[i]);
            Edges.due(c.judge(0), firsts[i]);
        }
        c.join(0, 2);
        Edges.sheet(c, 0, 32, 999, 0, 0);
        Edges.due(c.judge(0), -1);
        Edges.sheet(c, 0, 32, 999, 0);
        Edges.due(c.judge(0), 2);
        SaltClouds full = Edges.clouds(0, 0, 0, 0, 0, 0, 0, 0, 0, 0, 0, 0, 0, 0, 0, 0, 0, 0, 0, 0, 0, 0, 0, 0);
        full.sheet(0, 8, 8);
        Edges.due(full.judge(0), -1);
        full.sheet(0, 8, 7);
        Edges.due(full.judge(0), 7);
        full.sheet(0, 8, 40);
        Edges.due(full.judge(0), 8);

        Edges.says("BEYOND: no such SHEET.");
        for (int sheet : Edges.NO_SHEETS) {
            Edges.refused(Edges.BEYOND, d -> d.judge(sheet));
        }

        Edges.says("NONE: it is missing.");
        Edges.refused(Edges.NONE, d -> d.judge(3));
        Edges.refused(SaltClouds::new, Edges.NONE, d -> d.judge(0));
    }

    private static void image() {
        Edges.promise(35);
        Edges.says("All (but SHEETS, THE TRACE, what told() tells, and how often this was done) is kept as an IMAGE, in place of "
            + "one ahead: how often that was done.");
        SaltClouds c = new SaltClouds();
        for (int i = 1; i <= 300; i++) {
            Edges.due(c.image(), i);
        }
        c = Edges.sky();
        Edges.due(c.image(), 2);
        c.restore();
        Edges.due(c.image(), 3);
        c.voice(0, 0, 5);
        c.sheet(3, 8, 0);
        c.put(0, 0, 9);
        c.trace(-1);
        c.hill(12, 0);
        int[] told = {c.told(1), c.told(2)};
        c.restore();
        Edges.due(c.trace(0), 10);
        Edges.due(c.count(8), 1);
        Edges.due(c.told(1), told[0]);
        Edges.due(c.told(2), told[1]);
        Edges.due(c.move(3, 0, 3, 0, 0), 0);
        Edges.due(c.hills(0), 5);
        Edges.due(c.hill(0, 0), 9);
        Edges.due(c.image(), 4);
    }

    private static void restore() {
        Edges.promise(36);
        Edges.says("All is as the IMAGE has it, which stays: HOUR.");
        SaltClouds c = new SaltClouds();
        c.image();
        c.cloud(12, 3, 4);
        Edges.due(c.restore(), 0);
        Edges.due(c.count(0), 0);
        Edges.due(c.ofCloud(0, 0), Edges.BEYOND);
        Edges.due(c.cloud(0, 5, 0), 0);
        Edges.due(c.ofCloud(0, 0), 0);
        c = Edges.lastHour();
        c.image();
        Edges.due(c.restore(), 9999);
        Edges.due(c.restore(), 9999);
        c.hours(1);
        Edges.due(c.restore(), 9999);
        SaltClouds d = Edges.sky();
        d.image();
        spoil(d);
        Edges.due(d.restore(), 1);
        asInSky(d);
        spoil(d);
        Edges.due(d.restore(), 1);
        asInSky(d);
        d.restore();
        Edges.due(d.text(0), 1);
        Edges.due(d.law(0, 1, 4, 1), 7);
        Edges.due(d.check(), 0);
        Edges.due(d.count(7), 0);

        Edges.says("NONE: there is none.");
        Edges.refused(SaltClouds::new, Edges.NONE, SaltClouds::restore);
        Edges.refused(() -> Edges.clouds(0, 0, 5, 0, 0, 6), Edges.NONE, SaltClouds::restore);
    }

    private static void spoil(SaltClouds c) {
        c.part(3, 4);
        for (int cloud = 0; cloud < 5; cloud++) {
            c.become(cloud, 69 - cloud);
            for (int what = 0; what < 5; what++) {
                c.set(cloud, what, 11 - what);
            }
        }
        c.cloud(0, 0, 0);
        c.hill(0, 7);
        c.hill(11, 7);
        c.wind(0, 3);
        c.wind(7, 3);
        c.text(1);
        Edges.text(c, 0, "s");
        Edges.feed(c, "9");
        c.hours(3);
        c.loose(2);
        c.check();
        c.tell(4);
        c.seed(5);
    }

    private static void asInSky(SaltClouds c) {
        SaltClouds due = Edges.sky();
        for (int what : new int[] {0, 1, 2, 3, 4, 5, 6, 7, 9}) {
            Edges.due(c.count(what), due.count(what));
        }
        for (int cloud = 0; cloud < 5; cloud++) {
            for (int what = 0; what < 12; what++) {
                Edges.due(c.ofCloud(cloud, what), due.ofCloud(cloud, what));
            }
        }
        Edges.due(c.law(0, 8, 5, 3), due.law(0, 8, 5, 3));
        Edges.due(c.law(1, 8, 5, 3), due.law(1, 8, 5, 3));
        for (int n : new int[] {1, 7, 8}) {
            Edges.due(c.then(n, 0, 2), due.then(n, 0, 2));
            Edges.due(c.then(n, 1, 3), due.then(n, 1, 3));
        }
    }

    private static SaltClouds telling(int n) {
        SaltClouds c = Edges.sky();
        c.check();
        for (int i = 0; i < n; i++) {
            c.tell(i);
        }
        return c;
    }

    private static void tell() {
        Edges.promise(37);
        Edges.says("One more number waits: how many.");
        SaltClouds c = new SaltClouds();
        for (int i = 1; i <= 20; i++) {
            Edges.due(c.tell(i % 2 == 0 ? Edges.LEAST : Edges.BEYOND), i);
            Edges.due(c.count(7), i);
        }
        Edges.due(c.told(1), 0);

        Edges.says("FULL: 20 wait.");
        Edges.due(telling(19).tell(7), 20);
        Edges.refused(() -> telling(20), Edges.FULL, d -> d.tell(7));
        Edges.refused(() -> telling(20), Edges.FULL, d -> d.tell(Edges.LEAST));
        SaltClouds again = telling(20);
        again.check();
        Edges.due(again.tell(7), 1);
    }

    private static void check() {
        Edges.promise(38);
        Edges.says("The numbers that wait (none do then) are WATERS of all CLOUDS together behind 1, 2, .. HOURS: 0; else 1 and "
            + "the place (from 0) of the first that isn't so.");
        Edges.due(new SaltClouds().check(), 0);
        for (int wrong = 0; wrong <= 20; wrong++) {
            SaltClouds c = Edges.clouds(0, 0, 5, 1, 0, 7, 0, 3, 990);
            for (int i = 0; i < 20; i++) {
                c.tell(5 + 7 + Math.min(999, 991 + i) + i + (i < wrong ? 1 : 2));
            }
            Edges.due(c.check(), wrong == 20 ? 0 : 1 + wrong);
            Edges.due(c.count(7), 0);
            Edges.due(c.check(), 0);
            Edges.due(c.count(1), 0);
            Edges.due(c.ofCloud(0, 3), 5);
        }
        SaltClouds two = Edges.clouds(0, 0, 5);
        two.tell(7);
        two.tell(8);
        two.tell(8);
        Edges.due(two.check(), 1);
        two.tell(Edges.LEAST);
        Edges.due(two.check(), 1);
        SaltClouds none = new SaltClouds();
        none.tell(0);
        none.tell(0);
        none.tell(1);
        Edges.due(none.check(), 3);
        SaltClouds late = Edges.clouds(0, 0, 5);
        Edges.hours(late, 9999);
        late.set(0, 1, 5);
        late.tell(6);
        late.tell(7);
        Edges.due(late.check(), 0);
        Edges.due(late.count(1), 9999);
    }

    private static void count() {
        Edges.promise(39);
        Edges.says("0 CLOUDS, 1 HOUR, 2 SEA, 3 how many are THERE, 4 NOBODY, 5 WATERS of all together, 6 bytes of THE TAPE, 7 "
            + "numbers that wait, 8 BODIES in THE TRACE, 9 z (any number).");
        SaltClouds c = Edges.clouds(0, 0, 10, 20, 0, 20, 0, 3, 30, 0, 3, 40);
        c.set(0, 2, 90);
        c.set(2, 2, 90);
        c.hill(0, 4);
        c.join(2, 3);
        c.feed(0L, 5);
        c.tell(1);
        c.tell(1);
        c.voice(1, 1, 0);
        c.seed(Edges.LEAST);
        c.hours(2);
        int[] counts = {4, 2, 26, 3, 2, 76, 5, 2, 4, Edges.LEAST};
        for (int what = 0; what < counts.length; what++) {
            Edges.due(c.count(what), counts[what]);
        }
        c.seed(Edges.BEYOND);
        Edges.due(c.count(9), Edges.BEYOND);
        Edges.due(c.told(1), 0);
        SaltClouds most = new SaltClouds();
        for (int i = 0; i < 8; i++) {
            most.cloud(0, i, 999);
        }
        for (int i = 0; i < 20; i++) {
            most.tell(i);
        }
        for (int i = 0; i < 10; i++) {
            most.feed(0L, 5);
        }
        most.voice(0, 3, 0);
        int[] mosts = {8, 0, 0, 8, 8, 7992, 50, 20, 4, 1};
        for (int what = 0; what < mosts.length; what++) {
            Edges.due(most.count(what), mosts[what]);
        }

        Edges.says("BEYOND.");
        for (int what : new int[] {-1, 10, Edges.LEAST, Edges.MOST}) {
            Edges.refused(Edges.BEYOND, d -> d.count(what));
            Edges.refused(SaltClouds::new, Edges.BEYOND, d -> d.count(what));
        }
    }

    private static void told() {
        Edges.promise(40);
        Edges.says("How many acts have answered an ERROR LOW - k (k 1 .. 5); BEYOND: another k (counted, too).");
        SaltClouds c = new SaltClouds();
        for (int k = 1; k <= 5; k++) {
            Edges.due(c.told(k), 0);
        }
        int beyond = 0;
        for (int k : new int[] {0, 6, -1, Edges.LEAST, Edges.MOST}) {
            Edges.due(c.told(k), Edges.BEYOND);
            beyond++;
            Edges.due(c.told(1), beyond);
            Edges.refused(Edges.BEYOND, d -> d.told(k));
        }
        c.cloud(0, 0, 0);
        c.restore();
        c.restore();
        c.sheet(0, 8, -1);
        c.as(0, 6);
        for (int i = 0; i < 24; i++) {
            c.tell(0);
        }
        int[] told = {0, 5, 2, 1, 4, 1};
        for (int k = 1; k <= 5; k++) {
            Edges.due(c.told(k), told[k]);
            Edges.due(c.told(k), told[k]);
        }
        Edges.text(c, 0, "+");
        c.seed(Edges.NONE);
        c.seed(Edges.STATE);
        c.voice(0, 0, Edges.STATE);
        c.count(9);
        c.image();
        c.told(7);
        c.restore();
        told[1]++;
        for (int k = 1; k <= 5; k++) {
            Edges.due(c.told(k), told[k]);
        }
        SaltClouds many = new SaltClouds();
        for (int i = 0; i < 500; i++) {
            many.restore();
        }
        Edges.due(many.told(2), 500);
    }
}
