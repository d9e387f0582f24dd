import java.io.IOException;

/** Each sentence of promises 1 to 10, clouds, hills, winds, at its edges. */
public final class CloudEdgeTests {
    private CloudEdgeTests() {
    }

    public static void main(String[] args) throws IOException {
        Edges.open(args);
        newObject();
        cloud();
        ofCloud();
        become();
        as();
        set();
        hill();
        wind();
        join();
        part();
        Edges.end("CloudEdgeTests", 1, 10);
    }

    private static void newObject() {
        Edges.promise(1);
        Edges.says("All as at first; no CLOUDS.");
        SaltClouds c = new SaltClouds();
        int[] counts = {0, 0, 0, 0, 0, 0, 0, 0, 0, 1};
        for (int what = 0; what < counts.length; what++) {
            Edges.due(c.count(what), counts[what]);
        }
        for (int k = 1; k <= 5; k++) {
            Edges.due(c.told(k), 0);
        }
        for (int place = 0; place < 12; place++) {
            Edges.due(c.hill(place, 9), 0);
        }
        for (int h = 0; h < 8; h++) {
            Edges.due(c.wind(h, 3), 0);
        }
        for (int sheet = 0; sheet < 4; sheet++) {
            Edges.due(c.judge(sheet), Edges.NONE);
        }
        Edges.due(c.trace(0), Edges.NONE);
        Edges.due(c.restore(), Edges.NONE);
        Edges.due(c.law(0, 99, 1, 2), 9);
        Edges.due(c.law(1, 9, 2, 3), 7);
        Edges.due(c.first(), Edges.NONE);
        Edges.due(c.hours(1), 0);
        Edges.due(c.image(), 1);
    }

    private static void cloud() {
        Edges.promise(2);
        Edges.says("A CLOUD (km: 10 times the KIND, and m) that is THERE, without SALTS: its number.");
        SaltClouds c = new SaltClouds();
        int[] kms = {0, 9, 10, 69, 34};
        for (int i = 0; i < kms.length; i++) {
            int place = i % 2 == 0 ? 0 : 11;
            int water = i % 2 == 0 ? 999 : 0;
            Edges.due(c.cloud(kms[i], place, water), i);
            int[] facts = {kms[i] / 10, kms[i] % 10, place, water, 0, 0, 0, 1};
            for (int what = 0; what < facts.length; what++) {
                Edges.due(c.ofCloud(i, what), facts[what]);
            }
        }
        Edges.due(c.count(0), 5);
        Edges.due(c.count(3), 5);

        Edges.says("BEYOND.");
        for (int km : new int[] {-1, 70, Edges.LEAST, Edges.MOST}) {
            Edges.refused(Edges.BEYOND, d -> d.cloud(km, 0, 0));
        }
        for (int place : new int[] {-1, 12, Edges.LEAST, Edges.MOST}) {
            Edges.refused(Edges.BEYOND, d -> d.cloud(0, place, 0));
        }
        for (int water : new int[] {-1, 1000, Edges.LEAST, Edges.MOST}) {
            Edges.refused(Edges.BEYOND, d -> d.cloud(0, 0, water));
        }
        Edges.refused(Edges::fullSky, Edges.BEYOND, d -> d.cloud(70, 0, 0));
        Edges.refused(Edges::fullSky, Edges.BEYOND, d -> d.cloud(0, 12, 0));
        Edges.refused(Edges::fullSky, Edges.BEYOND, d -> d.cloud(0, 0, 1000));

        Edges.says("FULL.");
        SaltClouds full = new SaltClouds();
        for (int i = 0; i < 8; i++) {
            Edges.due(full.cloud(0, 0, 1), i);
        }
        Edges.due(full.cloud(0, 0, 1), Edges.FULL);
        Edges.due(full.count(0), 8);
        Edges.refused(Edges::fullSky, Edges.FULL, d -> d.cloud(0, 0, 0));
    }

    private static void ofCloud() {
        Edges.promise(3);
        Edges.says("0 KIND, 1 m, 2 PLACE, 3 WATER, 4 .. 6 SALTS, 7 whether it is THERE");
        SaltClouds c = Edges.clouds(0, 0, 0, 69, 11, 999, 23, 11, 0);
        Edges.salts(c, 1, 99, 98, 97);
        c.join(1, 2);
        int[][] facts = {{0, 0, 0, 0, 0, 0, 0, 1}, {6, 9, 11, 999, 99, 98, 97, 1}, {2, 3, 11, 0, 0, 0, 0, 0}};
        for (int cloud = 0; cloud < 3; cloud++) {
            for (int what = 0; what < 8; what++) {
                Edges.due(c.ofCloud(cloud, what), facts[cloud][what]);
            }
        }

        Edges.says("8 TASTE, 9 NAME (any number)");
        Edges.due(c.ofCloud(0, 8), 9999);
        Edges.due(c.ofCloud(0, 9), 999);
        Edges.due(c.ofCloud(1, 8), 29);
        Edges.due(c.ofCloud(1, 9), 2);
        Edges.due(c.ofCloud(2, 8), 9999);
        Edges.text(c, 0, "0-(9999*9999*10+100)*(t/9999)-s");
        Edges.due(c.ofCloud(0, 9), -999800010 - 100);
        Edges.due(c.ofCloud(1, 9), -99);
        Edges.text(c, 0, "0-9999*9999*10-9999*20-11");
        Edges.due(c.ofCloud(0, 9), Edges.BEYOND);
        Edges.due(c.told(1), 0);

        Edges.says("10 DRIFTS of WIND now");
        SaltClouds d = Edges.clouds(20, 0, 0, 0, 0, 0);
        d.join(0, 1);
        d.wind(0, -3);
        d.wind(7, 3);
        Edges.due(d.ofCloud(0, 10), -6);
        Edges.due(d.ofCloud(1, 10), -3);
        d.hours(7);
        Edges.due(d.ofCloud(0, 10), 6);
        d.hours(1);
        Edges.due(d.ofCloud(0, 10), -6);

        Edges.says("11 RAINS at its PLACE (0 at the sea).");
        SaltClouds e = Edges.clouds(29, 4, 999, 29, 5, 3, 29, 5, 1);
        e.hill(5, 1);
        e.join(1, 2);
        Edges.due(e.ofCloud(0, 11), 0);
        Edges.due(e.ofCloud(1, 11), 4);
        Edges.due(e.ofCloud(2, 11), 0);
        e.set(0, 0, 5);
        Edges.due(e.ofCloud(0, 11), 11);

        Edges.says("BEYOND.");
        for (int cloud : Edges.NO_CLOUDS) {
            Edges.refused(Edges.BEYOND, f -> f.ofCloud(cloud, 0));
        }
        for (int what : new int[] {-1, 12, Edges.LEAST, Edges.MOST}) {
            Edges.refused(Edges.BEYOND, f -> f.ofCloud(0, what));
        }
        Edges.refused(SaltClouds::new, Edges.BEYOND, f -> f.ofCloud(0, 0));
        Edges.refused(Edges::fullSky, Edges.BEYOND, f -> f.ofCloud(8, 0));
    }

    private static void become() {
        Edges.promise(4);
        Edges.says("A CLOUD becomes one of a KIND, with m (km): the KIND that it was.");
        SaltClouds c = Edges.clouds(69, 3, 999, 31, 3, 0);
        Edges.salts(c, 0, 99, 98, 97);
        Edges.due(c.become(0, 0), 6);
        Edges.due(c.become(0, 69), 0);
        Edges.due(c.become(0, 60), 6);
        int[] facts = {6, 0, 3, 999, 99, 98, 97, 1};
        for (int what = 0; what < facts.length; what++) {
            Edges.due(c.ofCloud(0, what), facts[what]);
        }
        c.join(0, 1);
        Edges.due(c.become(1, 42), 3);
        int[] ofGone = {4, 2, 3, 0, 0, 0, 0, 0};
        for (int what = 0; what < ofGone.length; what++) {
            Edges.due(c.ofCloud(1, what), ofGone[what]);
        }

        Edges.says("BEYOND.");
        for (int cloud : Edges.NO_CLOUDS) {
            Edges.refused(Edges.BEYOND, d -> d.become(cloud, 0));
        }
        for (int km : new int[] {-1, 70, Edges.LEAST, Edges.MOST}) {
            Edges.refused(Edges.BEYOND, d -> d.become(0, km));
        }
    }

    private static void as() {
        Edges.promise(5);
        Edges.says("A CLOUD as one of a KIND: m.");
        SaltClouds c = Edges.clouds(0, 0, 0, 69, 0, 0, 44, 0, 0);
        Edges.due(c.as(0, 0), 0);
        Edges.due(c.as(1, 6), 9);
        Edges.due(c.as(1, 3), 9);
        Edges.due(c.as(1, 0), 9);
        c.join(0, 2);
        Edges.due(c.as(2, 1), 4);

        Edges.says("BEYOND.");
        for (int cloud : Edges.NO_CLOUDS) {
            Edges.refused(Edges.BEYOND, d -> d.as(cloud, 0));
        }
        for (int kind : new int[] {-1, 7, Edges.LEAST, Edges.MOST}) {
            Edges.refused(Edges.BEYOND, d -> d.as(0, kind));
        }

        Edges.says("KIND: it isn't of that KIND, nor of one under it.");
        String[] above = {"0", "01", "02", "03", "014", "025", "036"};
        for (int kind = 0; kind <= 6; kind++) {
            for (int other = 0; other <= 6; other++) {
                SaltClouds d = Edges.clouds(10 * kind + 7, 0, 0);
                Edges.due(d.as(0, other), above[kind].indexOf('0' + other) >= 0 ? 7 : Edges.KIND);
            }
        }
        Edges.refused(Edges.KIND, d -> d.as(0, 1));
        Edges.refused(Edges.KIND, d -> d.as(2, 5));
        Edges.refused(Edges.KIND, d -> d.as(4, 6));
    }

    private static void set() {
        Edges.promise(6);
        Edges.says("PLACE (what 0), WATER (1), SALT 0 to 2 (2 to 4) of a CLOUD becomes v: what it was.");
        SaltClouds c = Edges.clouds(0, 7, 500);
        int[] was = {7, 500, 0, 0, 0};
        int[] most = {11, 999, 99, 99, 99};
        for (int what = 0; what < 5; what++) {
            Edges.due(c.set(0, what, most[what]), was[what]);
            Edges.due(c.set(0, what, 0), most[what]);
            Edges.due(c.set(0, what, most[what] - what), 0);
        }
        for (int what = 0; what < 5; what++) {
            Edges.due(c.ofCloud(0, what + 2), most[what] - what);
        }

        Edges.says("BEYOND.");
        for (int cloud : Edges.NO_CLOUDS) {
            Edges.refused(Edges.BEYOND, d -> d.set(cloud, 1, 0));
        }
        for (int what : new int[] {-1, 5, Edges.LEAST, Edges.MOST}) {
            Edges.refused(Edges.BEYOND, d -> d.set(0, what, 0));
        }
        for (int what = 0; what < 5; what++) {
            int which = what;
            for (int v : new int[] {-1, most[what] + 1, Edges.LEAST, Edges.MOST}) {
                Edges.refused(Edges.BEYOND, d -> d.set(0, which, v));
            }
        }
        Edges.refused(Edges.BEYOND, d -> d.set(4, 1, 1000));
        Edges.refused(Edges.BEYOND, d -> d.set(4, 5, 0));

        Edges.says("STATE: it is gone.");
        for (int what = 0; what < 5; what++) {
            int which = what;
            Edges.refused(Edges.STATE, d -> d.set(4, which, 0));
        }
        SaltClouds back = Edges.sky();
        back.part(3, 4);
        Edges.due(back.set(4, 1, 0), 13);
    }

    private static void hill() {
        Edges.promise(7);
        Edges.says("HEIGHT of a PLACE becomes v: what it was.");
        SaltClouds c = Edges.clouds(0, 0, 100, 0, 11, 100);
        Edges.due(c.hill(0, 9), 0);
        Edges.due(c.hill(11, 1), 0);
        Edges.due(c.ofCloud(0, 11), 18);
        Edges.due(c.ofCloud(1, 11), 2);
        Edges.due(c.hill(0, 0), 9);
        Edges.due(c.hill(11, 9), 1);
        Edges.due(c.ofCloud(0, 11), 0);
        Edges.due(c.hill(11, 9), 9);

        Edges.says("BEYOND.");
        for (int place : new int[] {-1, 12, Edges.LEAST, Edges.MOST}) {
            Edges.refused(Edges.BEYOND, d -> d.hill(place, 1));
        }
        for (int v : new int[] {-1, 10, Edges.LEAST, Edges.MOST}) {
            Edges.refused(Edges.BEYOND, d -> d.hill(3, v));
        }
    }

    private static void wind() {
        Edges.promise(8);
        Edges.says("WIND of HOURS of the rest h (0 to 7) becomes v: what it was.");
        SaltClouds c = Edges.clouds(0, 0, 0);
        Edges.due(c.wind(0, -3), 0);
        Edges.due(c.wind(7, 3), 0);
        Edges.due(c.then(1, 0, 2), 9);
        Edges.due(c.then(7, 0, 2), 9);
        Edges.due(c.then(8, 0, 2), 0);
        Edges.due(c.then(9, 0, 2), 9);
        Edges.due(c.wind(0, 0), -3);
        Edges.due(c.wind(7, -3), 3);

        Edges.says("BEYOND.");
        for (int h : new int[] {-1, 8, Edges.LEAST, Edges.MOST}) {
            Edges.refused(Edges.BEYOND, d -> d.wind(h, 1));
        }
        for (int v : new int[] {-4, 4, Edges.LEAST, Edges.MOST}) {
            Edges.refused(Edges.BEYOND, d -> d.wind(0, v));
        }
    }

    private static void join() {
        Edges.promise(9);
        Edges.says("JOIN: WATER of the first then.");
        int[][] sums = {{0, 0, 0}, {500, 499, 999}, {500, 500, 999}, {999, 999, 999}, {0, 7, 7}, {998, 1, 999}};
        for (int[] sum : sums) {
            SaltClouds c = Edges.clouds(0, 11, sum[0], 0, 11, sum[1]);
            Edges.due(c.join(1, 0), sum[2]);
            Edges.due(c.ofCloud(1, 3), sum[2]);
            Edges.due(c.ofCloud(0, 3), 0);
            Edges.due(c.ofCloud(0, 7), 0);
        }

        Edges.says("BEYOND: also one twice.");
        for (int cloud : Edges.NO_CLOUDS) {
            Edges.refused(Edges.BEYOND, d -> d.join(cloud, 0));
            Edges.refused(Edges.BEYOND, d -> d.join(0, cloud));
            Edges.refused(Edges.BEYOND, d -> d.join(4, cloud));
        }
        Edges.refused(Edges.BEYOND, d -> d.join(0, 0));
        Edges.refused(Edges.BEYOND, d -> d.join(4, 4));
        Edges.refused(Edges.BEYOND, d -> d.join(5, 5));

        Edges.says("STATE: one is gone; not at one PLACE.");
        Edges.refused(Edges.STATE, d -> d.join(3, 4));
        Edges.refused(Edges.STATE, d -> d.join(4, 3));
        Edges.refused(Edges.STATE, d -> d.join(0, 1));
        SaltClouds round = Edges.clouds(0, 0, 1, 0, 11, 1);
        Edges.due(round.join(0, 1), Edges.STATE);
        round.set(1, 0, 0);
        Edges.due(round.join(0, 1), 2);
    }

    private static void part() {
        Edges.promise(10);
        Edges.says("PART: WATER of the other one then.");
        for (int water : new int[] {0, 1, 2, 3, 998, 999}) {
            SaltClouds c = Edges.clouds(0, 2, water, 0, 2, 0);
            c.join(0, 1);
            Edges.due(c.part(0, 1), water / 2);
            Edges.due(c.ofCloud(1, 3), water / 2);
            Edges.due(c.ofCloud(0, 3), water - water / 2);
        }

        Edges.says("BEYOND: also one twice.");
        for (int cloud : Edges.NO_CLOUDS) {
            Edges.refused(Edges.BEYOND, d -> d.part(cloud, 4));
            Edges.refused(Edges.BEYOND, d -> d.part(0, cloud));
            Edges.refused(Edges.BEYOND, d -> d.part(4, cloud));
        }
        Edges.refused(Edges.BEYOND, d -> d.part(0, 0));
        Edges.refused(Edges.BEYOND, d -> d.part(4, 4));

        Edges.says("STATE: the first is gone, the other one isn't.");
        Edges.refused(Edges.STATE, d -> d.part(4, 3));
        Edges.refused(Edges.STATE, d -> d.part(0, 1));
        Edges.refused(Edges.STATE, d -> d.part(1, 2));
        SaltClouds both = Edges.clouds(0, 0, 4, 0, 0, 0, 0, 0, 0);
        both.join(0, 1);
        both.join(0, 2);
        Edges.due(both.part(1, 2), Edges.STATE);
        Edges.due(both.part(2, 1), Edges.STATE);
        Edges.due(both.part(0, 2), 2);
        Edges.due(both.part(2, 1), 1);
    }
}
