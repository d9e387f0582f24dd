import java.io.IOException;

/** Each sentence of promises 18 to 26, what would be, at its edges. */
public final class WouldBeEdgeTests {
    private WouldBeEdgeTests() {
    }

    public static void main(String[] args) throws IOException {
        Edges.open(args);
        nobodyBy();
        first();
        comes();
        stays();
        meets();
        storm();
        paid();
        sun();
        winds();
        Edges.end("WouldBeEdgeTests", 18, 26);
    }

    private static void nobodyBy() {
        Edges.promise(18);
        Edges.says("NOBODY BY.");
        Edges.due(Edges.fading(301).nobodyBy(0), 0);
        Edges.due(Edges.fading(300).nobodyBy(0), 1);
        Edges.due(Edges.fading(102).nobodyBy(0), 199);
        Edges.due(Edges.fading(101).nobodyBy(0), 200);
        SaltClouds joined = Edges.fading(10, 5);
        joined.join(0, 1);
        Edges.due(joined.nobodyBy(1), 0);
        SaltClouds late = Edges.fading(0);
        Edges.hours(late, 9999);
        late.set(0, 1, 101);
        Edges.due(late.nobodyBy(0), 200);
        Edges.due(late.count(1), 9999);

        Edges.says("BEYOND.");
        for (int cloud : Edges.NO_CLOUDS) {
            Edges.refused(Edges.BEYOND, d -> d.nobodyBy(cloud));
        }

        Edges.says("NONE: not by 200.");
        Edges.due(Edges.fading(100).nobodyBy(0), Edges.NONE);
        Edges.due(Edges.fading(0).nobodyBy(0), Edges.NONE);
        Edges.refused(() -> Edges.fading(100, 101), Edges.NONE, d -> d.nobodyBy(0));
    }

    private static void first() {
        Edges.promise(19);
        Edges.says("FIRST.");
        Edges.due(Edges.fading(100, 101, 101).first(), 1);
        Edges.due(Edges.fading(300, 299, 301).first(), 2);
        Edges.due(Edges.fading(300, 302, 301, 999).first(), 1);
        Edges.due(Edges.fading(299, 300, 300).first(), 1);
        SaltClouds gone = Edges.fading(200, 299, 101);
        gone.join(2, 1);
        gone.set(2, 1, 101);
        gone.set(2, 2, 30);
        Edges.due(gone.first(), 0);
        Edges.due(Edges.fading(100, 100, 100, 100, 100, 100, 100, 101).first(), 7);

        Edges.says("NONE: for none.");
        Edges.refused(SaltClouds::new, Edges.NONE, SaltClouds::first);
        Edges.refused(() -> Edges.fading(100), Edges.NONE, SaltClouds::first);
        Edges.refused(() -> {
            SaltClouds c = Edges.fading(10, 10);
            c.join(0, 1);
            return c;
        }, Edges.NONE, SaltClouds::first);
    }

    private static SaltClouds tastes() {
        SaltClouds c = Edges.clouds(0, 0, 10, 0, 1, 30, 0, 2, 20, 0, 3, 0, 0, 4, 10, 0, 4, 90);
        Edges.salts(c, 0, 1, 0, 0);
        Edges.salts(c, 1, 0, 9, 0);
        Edges.salts(c, 2, 0, 0, 4);
        Edges.salts(c, 4, 0, 1, 0);
        Edges.salts(c, 5, 99, 99, 99);
        c.join(4, 5);
        c.set(4, 1, 10);
        Edges.salts(c, 4, 0, 1, 0);
        return c;
    }

    private static void comes() {
        Edges.promise(20);
        Edges.says("COMES, by a TASTE (0 to 9999): what 0 the set, 1 how many CLOUDS.");
        int[][] sets = {{10, 1, 1}, {30, 2, 1}, {20, 4, 1}, {25, 3, 2}, {26, 6, 2}, {16, 5, 2}, {23, 7, 3}, {9999, 8, 1},
            {22, 19, 3}, {18, -1, 0}};
        for (int[] set : sets) {
            Edges.due(tastes().comes(set[0], 0), set[1] < 0 ? Edges.NONE : set[1]);
            Edges.due(tastes().comes(set[0], 1), set[1] < 0 ? Edges.NONE : set[2]);
        }
        SaltClouds fresh = Edges.clouds(0, 0, 5);
        Edges.due(fresh.comes(0, 0), 1);
        fresh.set(0, 1, 0);
        Edges.due(fresh.comes(9999, 0), 1);
        fresh.set(0, 1, 1);
        Edges.salts(fresh, 0, 99, 0, 0);
        Edges.due(fresh.comes(9900, 0), 1);
        Edges.salts(fresh, 0, 99, 1, 0);
        Edges.due(fresh.comes(9999, 0), 1);
        SaltClouds all = Edges.clouds(0, 0, 10, 0, 1, 10, 0, 2, 10, 0, 3, 10, 0, 4, 10, 0, 5, 10, 0, 6, 10, 0, 7, 10);
        all.set(7, 2, 8);
        Edges.due(all.comes(10, 0), 255);
        Edges.due(all.comes(10, 1), 8);
        Edges.due(all.comes(11, 0), 128 + 63);
        Edges.due(all.comes(11, 1), 7);
        Edges.due(all.comes(80, 0), 128);
        Edges.due(all.comes(0, 0), 1);

        Edges.says("BEYOND.");
        for (int taste : new int[] {-1, 10000, Edges.LEAST, Edges.MOST}) {
            Edges.refused(Edges.BEYOND, d -> d.comes(taste, 0));
        }
        for (int what : new int[] {-1, 2, Edges.LEAST, Edges.MOST}) {
            Edges.refused(Edges.BEYOND, d -> d.comes(29, what));
            Edges.refused(SaltClouds::new, Edges.BEYOND, d -> d.comes(29, what));
        }

        Edges.says("NONE: NEVER.");
        for (int what = 0; what <= 1; what++) {
            int which = what;
            Edges.refused(SaltClouds::new, Edges.NONE, d -> d.comes(0, which));
            Edges.refused(SaltClouds::new, Edges.NONE, d -> d.comes(9999, which));
            Edges.refused(WouldBeEdgeTests::tastes, Edges.NONE, d -> d.comes(0, which));
            Edges.refused(WouldBeEdgeTests::tastes, Edges.NONE, d -> d.comes(31, which));
            Edges.refused(WouldBeEdgeTests::tastes, Edges.NONE, d -> d.comes(330, which));
        }
    }

    private static void stays() {
        Edges.promise(21);
        Edges.says("What stays: WATER (what 0), SALT 0 to 2 (1 to 3) of all that are THERE, together.");
        int[] none = {0, 0, 0, 0};
        int[] all = {7992, 792, 784, 776};
        int[] some = {7992 - 999, 792 - 99, 784 - 98, 776 - 97};
        SaltClouds empty = new SaltClouds();
        SaltClouds c = new SaltClouds();
        for (int i = 0; i < 8; i++) {
            c.cloud(0, i, 999);
            Edges.salts(c, i, 99, 98, 97);
        }
        for (int what = 0; what < 4; what++) {
            Edges.due(empty.stays(what), none[what]);
            Edges.due(c.stays(what), all[what]);
        }
        c.set(7, 0, 6);
        c.join(7, 6);
        Edges.salts(c, 7, 99, 98, 97);
        for (int what = 0; what < 4; what++) {
            Edges.due(c.stays(what), some[what]);
        }

        Edges.says("BEYOND.");
        for (int what : new int[] {-1, 4, Edges.LEAST, Edges.MOST}) {
            Edges.refused(Edges.BEYOND, d -> d.stays(what));
        }
    }

    private static void meets() {
        Edges.promise(22);
        Edges.says("MEETS.");
        SaltClouds c = Edges.clouds(0, 0, 0, 60, 0, 0, 60, 11, 0, 60, 1, 0);
        Edges.due(c.meets(0, 1), 0);
        c.wind(7, 1);
        Edges.due(c.meets(0, 1), 0);
        Edges.due(c.meets(0, 2), 88);
        Edges.due(c.meets(2, 0), 88);
        Edges.due(c.meets(0, 3), 8);
        c.wind(0, -1);
        c.wind(7, 0);
        Edges.due(c.meets(0, 2), 1);
        Edges.due(c.meets(0, 3), 81);
        Edges.due(c.ofCloud(0, 2), 0);
        Edges.due(c.count(1), 0);
        SaltClouds late = Edges.lastHour();
        late.wind(7, 1);
        late.wind(0, 0);
        late.wind(1, 0);
        late.become(0, 0);
        late.become(1, 60);
        late.set(0, 0, 3);
        late.set(1, 0, 5);
        Edges.due(late.meets(0, 1), 9);

        Edges.says("BEYOND: also one twice.");
        for (int cloud : Edges.NO_CLOUDS) {
            Edges.refused(Edges.BEYOND, d -> d.meets(cloud, 0));
            Edges.refused(Edges.BEYOND, d -> d.meets(0, cloud));
            Edges.refused(Edges.BEYOND, d -> d.meets(4, cloud));
        }
        Edges.refused(Edges.BEYOND, d -> d.meets(0, 0));
        Edges.refused(Edges.BEYOND, d -> d.meets(4, 4));

        Edges.says("STATE: one is gone.");
        Edges.refused(Edges.STATE, d -> d.meets(3, 4));
        Edges.refused(Edges.STATE, d -> d.meets(4, 3));
        Edges.refused(Edges.STATE, d -> d.meets(4, 0));

        Edges.says("NONE: not by 200.");
        Edges.refused(() -> Edges.clouds(0, 0, 0, 0, 1, 0), Edges.NONE, d -> d.meets(0, 1));
        Edges.refused(() -> {
            SaltClouds apart = Edges.clouds(0, 0, 0, 20, 1, 0);
            apart.wind(0, 2);
            return apart;
        }, Edges.NONE, d -> d.meets(0, 1));
    }

    private static SaltClouds storms(int bits, int... numbers) {
        SaltClouds c = Edges.clouds(0, 0, 10, 0, 1, 20, 0, 2, 30, 0, 3, 0, 0, 3, 0);
        Edges.salts(c, 0, 1, 2, 3);
        Edges.salts(c, 1, 1, 1, 1);
        Edges.salts(c, 2, 2, 3, 4);
        c.join(3, 4);
        Edges.sheet(c, 3, bits, numbers);
        return c;
    }

    private static void storm() {
        Edges.promise(23);
        Edges.says("IN A STORM, by a SHEET: what 0 the least set (as bits), 1 how many.");
        for (int bits : new int[] {8, 16, 32}) {
            Edges.due(storms(bits, 30, 2, 3, 4).storm(3, 0), 3);
            Edges.due(storms(bits, 30, 2, 3, 4).storm(3, 1), 4);
            Edges.due(storms(bits, 60, 4, 6, 8).storm(3, 0), 7);
            Edges.due(storms(bits, 60, 4, 6, 8).storm(3, 1), 2);
            Edges.due(storms(bits, 0, 0, 0, 0).storm(3, 0), 8);
            Edges.due(storms(bits, 0, 0, 0, 0).storm(3, 1), 1);
        }

        Edges.says("BEYOND.");
        for (int sheet : Edges.NO_SHEETS) {
            Edges.refused(Edges.BEYOND, d -> d.storm(sheet, 0));
        }
        for (int what : new int[] {-1, 2, Edges.LEAST, Edges.MOST}) {
            Edges.refused(Edges.BEYOND, d -> d.storm(1, what));
            Edges.refused(Edges.BEYOND, d -> d.storm(3, what));
        }

        Edges.says("NONE: the SHEET is missing, hasn't four numbers; there is none.");
        for (int what = 0; what <= 1; what++) {
            int which = what;
            Edges.refused(Edges.NONE, d -> d.storm(3, which));
            Edges.refused(Edges.NONE, d -> d.storm(2, which));
            Edges.refused(() -> storms(8, 30, 2, 3), Edges.NONE, d -> d.storm(3, which));
            Edges.refused(() -> storms(8, 30, 2, 3, 4, 0), Edges.NONE, d -> d.storm(3, which));
            Edges.refused(() -> storms(8, 31, 2, 3, 4), Edges.NONE, d -> d.storm(3, which));
            Edges.refused(() -> storms(8, 30, 3, 3, 4), Edges.NONE, d -> d.storm(3, which));
            Edges.refused(() -> storms(8, 30, 2, 2, 4), Edges.NONE, d -> d.storm(3, which));
            Edges.refused(() -> storms(8, 30, 2, 3, 5), Edges.NONE, d -> d.storm(3, which));
            Edges.refused(() -> storms(8, -1, 0, 0, 0), Edges.NONE, d -> d.storm(3, which));
        }
        SaltClouds nobody = new SaltClouds();
        Edges.sheet(nobody, 0, 8, 0, 0, 0, 0);
        Edges.due(nobody.storm(0, 0), Edges.NONE);
        Edges.due(nobody.storm(0, 1), Edges.NONE);
    }

    private static void paid() {
        Edges.promise(24);
        Edges.says("PAID.");
        Edges.due(new SaltClouds().paid(), 0);
        SaltClouds c = Edges.clouds(0, 4, 10, 0, 4, 998, 0, 5, 50);
        Edges.text(c, 1, "7");
        Edges.due(c.paid(), 14);
        Edges.due(c.paid(), 14);
        Edges.due(c.ofCloud(0, 3), 10);
        Edges.due(c.ofCloud(1, 3), 998);
        Edges.text(c, 1, "9999");
        Edges.due(c.paid(), 10 + 99);
        Edges.due(c.pay(), 10 + 99);
        Edges.due(c.ofCloud(0, 3), 99);
        Edges.due(c.ofCloud(1, 3), 900);
    }

    private static void sun() {
        Edges.promise(25);
        Edges.says("SUN: what 0 the SALT, 1 behind how many minutes (0: it is less than v already).");
        int[][] dues = {{71, 0, 0}, {61, 0, 0}, {51, 0, 0}, {50, 0, 1}, {49, 0, 2}, {41, 0, 10}, {40, 0, 11},
            {39, 1, 11}, {38, 2, 11}, {1, 2, 24}};
        SaltClouds c = Edges.clouds(0, 0, 0);
        Edges.salts(c, 0, 50, 60, 70);
        for (int[] due : dues) {
            Edges.due(c.sun(0, due[0], 0), due[1]);
            Edges.due(c.sun(0, due[0], 1), due[2]);
        }
        Edges.due(c.ofCloud(0, 4), 50);
        Edges.salts(c, 0, 99, 99, 99);
        int[][] all = {{99, 0, 1}, {98, 1, 1}, {97, 2, 1}, {96, 1, 2}, {95, 2, 2}, {94, 2, 2}, {1, 2, 33}};
        for (int[] due : all) {
            Edges.due(c.sun(0, due[0], 0), due[1]);
            Edges.due(c.sun(0, due[0], 1), due[2]);
        }
        Edges.salts(c, 0, 99, 98, 99);
        Edges.due(c.sun(0, 99, 0), 1);
        Edges.due(c.sun(0, 99, 1), 0);
        Edges.salts(c, 0, 1, 98, 99);
        Edges.due(c.sun(0, 1, 0), 0);
        Edges.due(c.sun(0, 1, 1), 1);
        Edges.due(Edges.sky().sun(4, 1, 0), 0);
        Edges.due(Edges.sky().sun(4, 99, 1), 0);

        Edges.says("BEYOND: also v 0 (none is ever less).");
        for (int cloud : Edges.NO_CLOUDS) {
            Edges.refused(Edges.BEYOND, d -> d.sun(cloud, 1, 0));
        }
        for (int v : new int[] {0, -1, 100, Edges.LEAST, Edges.MOST}) {
            Edges.refused(Edges.BEYOND, d -> d.sun(0, v, 0));
            Edges.refused(Edges.BEYOND, d -> d.sun(4, v, 1));
        }
        for (int what : new int[] {-1, 2, Edges.LEAST, Edges.MOST}) {
            Edges.refused(Edges.BEYOND, d -> d.sun(0, 1, what));
        }
    }

    private static SaltClouds winding(int km, int place, int... places) {
        SaltClouds c = Edges.clouds(km, place, 0, 0, place, 0);
        c.join(0, 1);
        Edges.sheet(c, 3, 16, places);
        return c;
    }

    private static void winds() {
        Edges.promise(26);
        Edges.says("WINDS, by a SHEET, of the i-th HOUR (0 to 7).");
        int[] winds = {-3, 3, -2, 2, -1, 1, 0, 3};
        for (int i = 0; i < 8; i++) {
            Edges.due(winding(0, 1, 10, 1, 11, 1, 0, 1, 1, 4).winds(0, 3, i), winds[i]);
            Edges.due(winding(0, 1, 10, 1, 11, 1, 0, 1, 1, 4, 8, 99, -1).winds(0, 3, i), winds[i]);
        }
        Edges.due(winding(60, 11, 11, 11).winds(0, 3, 0), -3);
        Edges.due(winding(60, 11, 11, 11).winds(0, 3, 1), -3);
        Edges.due(winding(0, 0, 9).winds(0, 3, 0), -3);
        Edges.due(winding(0, 0, 3).winds(0, 3, 0), 3);
        Edges.due(winding(20, 0, 6).winds(0, 3, 0), -3);
        Edges.due(winding(10, 0, 0).winds(0, 3, 0), -1);

        Edges.says("BEYOND.");
        for (int cloud : Edges.NO_CLOUDS) {
            Edges.refused(Edges.BEYOND, d -> d.winds(cloud, 0, 0));
        }
        for (int sheet : Edges.NO_SHEETS) {
            Edges.refused(Edges.BEYOND, d -> d.winds(0, sheet, 0));
            Edges.refused(Edges.BEYOND, d -> d.winds(4, sheet, 0));
        }
        for (int i : new int[] {-1, 8, Edges.LEAST, Edges.MOST}) {
            Edges.refused(Edges.BEYOND, d -> d.winds(0, 0, i));
            Edges.refused(Edges.BEYOND, d -> d.winds(4, 3, i));
            Edges.refused(() -> winding(60, 0, 0, 0, 0, 0, 0, 0, 0, 0, 0, 0), Edges.BEYOND, d -> d.winds(0, 3, i));
        }

        Edges.says("STATE: the CLOUD is gone.");
        Edges.refused(Edges.STATE, d -> d.winds(4, 0, 0));
        Edges.refused(Edges.STATE, d -> d.winds(4, 3, 0));
        Edges.refused(Edges.STATE, d -> d.winds(4, 2, 7));

        Edges.says("NONE: the SHEET is missing, tells no i-th HOUR; it can't be.");
        Edges.refused(Edges.NONE, d -> d.winds(0, 3, 0));
        Edges.refused(Edges.NONE, d -> d.winds(0, 2, 0));
        Edges.refused(() -> winding(0, 0, 1, 1, 1), Edges.NONE, d -> d.winds(0, 3, 3));
        Edges.refused(() -> winding(0, 0, 1, 1, 1), Edges.NONE, d -> d.winds(0, 3, 7));
        Edges.refused(() -> winding(0, 0, 1, 1, 1, 1, 1, 1, 1), Edges.NONE, d -> d.winds(0, 3, 7));
        Edges.refused(() -> winding(0, 0, 4), Edges.NONE, d -> d.winds(0, 3, 0));
        Edges.refused(() -> winding(0, 0, 8), Edges.NONE, d -> d.winds(0, 3, 0));
        Edges.refused(() -> winding(0, 0, 12), Edges.NONE, d -> d.winds(0, 3, 0));
        Edges.refused(() -> winding(0, 0, -1), Edges.NONE, d -> d.winds(0, 3, 0));
        Edges.refused(() -> winding(0, 0, 1, 2, 9), Edges.NONE, d -> d.winds(0, 3, 0));
        Edges.refused(() -> winding(0, 0, 0, 0, 0, 0, 0, 0, 0, 6), Edges.NONE, d -> d.winds(0, 3, 0));
        Edges.refused(() -> winding(60, 3, 4), Edges.NONE, d -> d.winds(0, 3, 0));
        Edges.refused(() -> winding(20, 3, 4), Edges.NONE, d -> d.winds(0, 3, 0));
        Edges.refused(() -> winding(10, 3, 5), Edges.NONE, d -> d.winds(0, 3, 0));
    }
}
