import java.io.IOException;

/** Each sentence of the terms, at its edges. */
public final class TermEdgeTests {
    private TermEdgeTests() {
    }

    public static void main(String[] args) throws IOException {
        Edges.open(args);
        Edges.terms();
        errors();
        numbersOfClouds();
        drifts();
        rains();
        keeps();
        tastes();
        hourAndSea();
        anHour();
        joinAndPart();
        grammar();
        lettersOfTexts();
        faults();
        uses();
        thoughts();
        sets();
        debts();
        sunAndWinds();
        draws();
        voices();
        sheets();
        Edges.end("TermEdgeTests", 0, 0);
    }

    private static void errors() {
        Edges.says("ERRORS are answers below -1000000000: LOW is -1000000000; LOW - 1 BEYOND, LOW - 2 NONE, LOW - 3 STATE, "
            + "LOW - 4 FULL, LOW - 5 KIND.");
        SaltClouds c = Edges.fullSky();
        Edges.due(c.cloud(70, 0, 0), -1000000001);
        Edges.due(c.trace(40), -1000000002);
        Edges.due(c.set(4, 0, 0), -1000000003);
        Edges.due(c.cloud(0, 0, 0), -1000000004);
        Edges.due(c.as(0, 1), -1000000005);

        Edges.says("Each act tells its ERRORS in the order in which they are asked; one that answers an ERROR changes nothing "
            + "but what told() tells.");
        Edges.refused(Edges::fullSky, Edges.BEYOND, d -> d.cloud(-1, 0, 0));
        Edges.refused(Edges.BEYOND, d -> d.as(1, -1));
        Edges.refused(Edges.BEYOND, d -> d.set(4, 0, 12));
        Edges.refused(Edges.BEYOND, d -> d.join(4, 4));
        Edges.refused(Edges.BEYOND, d -> d.part(4, 4));
        Edges.refused(Edges.BEYOND, d -> d.meets(4, 4));
        Edges.refused(Edges::lastHour, Edges.BEYOND, d -> d.hours(201));
        Edges.refused(Edges::lastHour, Edges.BEYOND, d -> d.loose(201));
        Edges.refused(Edges.BEYOND, d -> d.storm(3, 2));
        Edges.refused(Edges.BEYOND, d -> d.winds(4, 3, 8));
        Edges.refused(Edges.STATE, d -> d.winds(4, 3, 0));
        Edges.refused(Edges.BEYOND, d -> d.sheet(4, 8, -1));
        Edges.refused(Edges.STATE, d -> d.sheet(0, 8, -1));
        Edges.refused(Edges.NONE, d -> d.put(3, -1, 0));
        Edges.refused(Edges.BEYOND, d -> d.move(4, 0, 3, 0, -1));
        Edges.refused(Edges.NONE, d -> d.move(3, 0, 0, 0, -1));
        Edges.refused(Edges.KIND, d -> d.move(0, 0, 1, 0, -1));
        Edges.refused(SaltClouds::new, Edges.BEYOND, d -> d.comes(-1, 0));

        Edges.says("Quotients are cut.");
        SaltClouds cut = Edges.clouds(10, 0, 3);
        cut.set(0, 2, 1);
        Edges.due(cut.ofCloud(0, 8), 33);
        Edges.due(cut.law(0, -19, 0, 0), -1);
        cut.wind(0, -3);
        Edges.due(cut.ofCloud(0, 10), -1);
    }

    private static void numbersOfClouds() {
        Edges.says("CLOUDS 0, 1, .. (at most 8), of KINDS: 0 CLOUD; 1 MIST, 2 STORM, 3 SAINT under CLOUD; 4 VEIL under MIST; "
            + "5 FEUD under STORM; 6 BEACH under SAINT; with a number m (0 to 9)");
        SaltClouds c = new SaltClouds();
        for (int kind = 0; kind <= 6; kind++) {
            Edges.due(c.cloud(10 * kind + 9, 0, 0), kind);
            Edges.due(c.ofCloud(kind, 0), kind);
            Edges.due(c.as(kind, kind), 9);
            Edges.due(c.as(kind, 0), 9);
        }
        Edges.due(c.as(4, 1), 9);
        Edges.due(c.as(5, 2), 9);
        Edges.due(c.as(6, 3), 9);
        Edges.due(c.cloud(0, 0, 0), 7);
        Edges.due(c.as(7, 0), 0);
        Edges.due(c.cloud(0, 0, 0), Edges.FULL);

        Edges.says("each at a PLACE 0 to 11 (PLACES go round)");
        SaltClouds round = Edges.clouds(0, 11, 0, 0, 0, 0, 20, 6, 0, 20, 5, 0);
        round.wind(0, 1);
        round.wind(1, -2);
        round.wind(2, 3);
        int[][] places = {{0, 1, 8, 7}, {10, 11, 4, 3}, {1, 2, 10, 9}};
        for (int[] row : places) {
            round.hours(1);
            for (int cloud = 0; cloud < 4; cloud++) {
                Edges.due(round.ofCloud(cloud, 2), row[cloud]);
            }
        }

        Edges.says("with WATER (0 to 999) and three SALTS (0 to 99 each)");
        SaltClouds most = Edges.clouds(0, 0, 999, 0, 0, 999);
        Edges.salts(most, 0, 99, 99, 99);
        Edges.salts(most, 1, 99, 1, 0);
        Edges.due(most.join(1, 0), 999);
        for (int what = 4; what <= 6; what++) {
            Edges.due(most.ofCloud(1, what), 99);
            Edges.due(most.ofCloud(0, what), 0);
        }

        Edges.says("THERE or gone (joined to another one)");
        Edges.due(most.ofCloud(0, 7), 0);
        Edges.due(most.ofCloud(1, 7), 1);
        Edges.due(most.count(3), 1);
        Edges.due(most.count(0), 2);

        Edges.says("HILLS: each PLACE has a HEIGHT (0 to 9; 0 at first: the sea).");
        SaltClouds hills = Edges.clouds(0, 0, 100);
        for (int place = 0; place < 12; place++) {
            hills.set(0, 0, place);
            Edges.due(hills.ofCloud(0, 11), 0);
            Edges.due(hills.hill(place, 9), 0);
            Edges.due(hills.ofCloud(0, 11), 18);
        }
    }

    private static void driftsDue(int km, int... dues) {
        SaltClouds c = Edges.clouds(km, 0, 0);
        for (int v = -3; v <= 3; v++) {
            c.wind(0, v);
            Edges.due(c.ofCloud(0, 10), dues[v + 3]);
            Edges.due(c.then(1, 0, 2), Math.floorMod(dues[v + 3], 12));
        }
    }

    private static void drifts() {
        Edges.says("DRIFTS (by a wind v): CLOUD: v.");
        driftsDue(9, -3, -2, -1, 0, 1, 2, 3);
        driftsDue(39, -3, -2, -1, 0, 1, 2, 3);
        Edges.says("MIST: half of v.");
        driftsDue(19, -1, -1, 0, 0, 0, 1, 1);
        Edges.says("STORM: twice v.");
        driftsDue(29, -6, -4, -2, 0, 2, 4, 6);
        driftsDue(59, -6, -4, -2, 0, 2, 4, 6);
        Edges.says("VEIL: as MIST, and m modulo 2.");
        driftsDue(40, -1, -1, 0, 0, 0, 1, 1);
        driftsDue(48, -1, -1, 0, 0, 0, 1, 1);
        driftsDue(41, 0, 0, 1, 1, 1, 2, 2);
        driftsDue(49, 0, 0, 1, 1, 1, 2, 2);
        Edges.says("BEACH: 0.");
        driftsDue(60, 0, 0, 0, 0, 0, 0, 0);
        driftsDue(69, 0, 0, 0, 0, 0, 0, 0);
    }

    private static void rainsDue(int km, int height, int due) {
        int[] waters = {999, due + 1, due, due - 1, 1, 0};
        for (int water : waters) {
            SaltClouds c = Edges.clouds(km, 11, Math.max(0, water));
            c.hill(11, height);
            Edges.due(c.ofCloud(0, 11), Math.min(Math.max(0, water), due));
        }
    }

    private static void rains() {
        Edges.says("RAINS (how much WATER it loses at a HEIGHT h; no more than it has): CLOUD: 2 times h.");
        rainsDue(9, 1, 2);
        rainsDue(9, 9, 18);
        rainsDue(0, 0, 0);
        Edges.says("MIST: 0.");
        rainsDue(19, 9, 0);
        rainsDue(49, 9, 0);
        Edges.says("STORM: as CLOUD, and m.");
        rainsDue(20, 1, 2);
        rainsDue(29, 1, 11);
        rainsDue(29, 9, 27);
        rainsDue(29, 0, 0);
        Edges.says("SAINT: as CLOUD less m (0 at least).");
        rainsDue(30, 9, 18);
        rainsDue(39, 9, 9);
        rainsDue(39, 5, 1);
        rainsDue(38, 4, 0);
        rainsDue(39, 4, 0);
        rainsDue(39, 1, 0);
        rainsDue(69, 5, 1);
        rainsDue(69, 4, 0);
        Edges.says("FEUD: twice as STORM.");
        rainsDue(50, 1, 4);
        rainsDue(59, 1, 22);
        rainsDue(59, 9, 54);
        rainsDue(59, 0, 0);
    }

    private static void keepsDue(int km, int salt0, int salt1, int salt2) {
        SaltClouds c = Edges.clouds(km, 0, 999);
        c.hill(0, 9);
        Edges.salts(c, 0, 99, 99, 99);
        c.hours(1);
        Edges.due(c.ofCloud(0, 4), salt0);
        Edges.due(c.ofCloud(0, 5), salt1);
        Edges.due(c.ofCloud(0, 6), salt2);
    }

    private static void keeps() {
        Edges.says("KEEPS (whether a SALT stays in rain): CLOUD: each.");
        keepsDue(0, 99, 99, 99);
        keepsDue(10, 99, 99, 99);
        keepsDue(40, 99, 99, 99);
        Edges.says("STORM: not SALT 2.");
        keepsDue(20, 99, 99, 90);
        Edges.says("SAINT: not SALT 0.");
        keepsDue(30, 90, 99, 99);
        Edges.says("FEUD: as STORM, and not SALT 1.");
        keepsDue(50, 99, 90, 90);
        Edges.says("(Others as the KIND above.)");
        keepsDue(60, 90, 99, 99);
    }

    private static void tastes() {
        Edges.says("TASTE of a CLOUD: 100 times its SALTS together by its WATER (9999 at most); with no WATER 9999.");
        int[][] dues = {{0, 0, 0, 0, 9999}, {99, 99, 99, 0, 9999}, {0, 0, 0, 999, 0}, {9, 0, 0, 999, 0}, {0, 10, 0, 999, 1},
            {99, 99, 99, 999, 29}, {99, 0, 0, 1, 9900}, {99, 1, 0, 1, 9999}, {99, 99, 99, 1, 9999}, {99, 99, 1, 2, 9950},
            {99, 99, 2, 2, 9999}, {99, 99, 99, 3, 9900}, {1, 2, 3, 7, 85}};
        for (int[] due : dues) {
            SaltClouds c = Edges.clouds(0, 0, due[3]);
            Edges.salts(c, 0, due[0], due[1], due[2]);
            Edges.due(c.ofCloud(0, 8), due[4]);
            Edges.due(c.ofCloud(0, 9), due[4] / 10);
        }

        Edges.says("NAME: what the TEXT gives.");
        SaltClouds c = Edges.clouds(0, 0, 50);
        Edges.salts(c, 0, 5, 6, 7);
        Edges.text(c, 0, "t*1000+w*10+s");
        Edges.due(c.ofCloud(0, 9), 36 * 1000 + 50 * 10 + 5);

        Edges.says("It is NOBODY, if it is gone, or NAME is 0.");
        SaltClouds nobody = Edges.clouds(0, 0, 10, 0, 0, 10, 0, 0, 0, 0, 0, 0);
        nobody.set(1, 2, 1);
        Edges.due(nobody.count(4), 1);
        Edges.text(nobody, 0, "t-10");
        Edges.due(nobody.ofCloud(0, 9), -10);
        Edges.due(nobody.count(4), 1);
        nobody.join(2, 3);
        Edges.due(nobody.ofCloud(3, 9), 9989);
        Edges.due(nobody.count(4), 2);
        Edges.text(nobody, 0, "0");
        Edges.due(nobody.count(4), 4);
    }

    private static void hourAndSea() {
        Edges.says("HOUR (0 to 9999; 0 at first)");
        SaltClouds c = new SaltClouds();
        Edges.due(c.count(1), 0);
        Edges.hours(c, 9999);
        Edges.due(c.count(1), 9999);
        Edges.due(c.hours(1), Edges.STATE);
        Edges.due(c.loose(1), Edges.STATE);
        Edges.due(c.count(1), 9999);

        Edges.says("WIND of an HOUR: one of 8 numbers (-3 to 3; 0 at first), by HOUR modulo 8.");
        SaltClouds d = Edges.clouds(0, 0, 0);
        for (int h = 0; h < 8; h++) {
            Edges.due(d.wind(h, h == 7 ? -3 : h % 4), 0);
        }
        int place = 0;
        for (int h = 0; h < 17; h++) {
            int wind = h % 8 == 7 ? -3 : h % 4;
            Edges.due(d.ofCloud(0, 10), wind);
            d.hours(1);
            place = (place + wind + 12) % 12;
            Edges.due(d.ofCloud(0, 2), place);
        }

        Edges.says("SEA: WATER that was rained (0 at first; 999999 at most).");
        SaltClouds sea = Edges.clouds(59, 0, 999, 59, 0, 999, 59, 0, 999, 59, 0, 999, 59, 0, 999, 59, 0, 999, 59, 0, 999, 59, 0, 999);
        Edges.due(sea.count(2), 0);
        sea.hill(0, 9);
        int rained = 0;
        for (int i = 0; i < 40; i++) {
            sea.hours(19);
            rained += 8 * 999;
            Edges.due(sea.count(2), rained);
            for (int cloud = 0; cloud < 8; cloud++) {
                sea.set(cloud, 1, 999);
            }
        }
    }

    private static SaltClouds over(int height, int km, int water, int salt0, int salt1, int salt2) {
        SaltClouds c = Edges.clouds(km, 5, water);
        Edges.salts(c, 0, salt0, salt1, salt2);
        c.hill(5, height);
        return c;
    }

    private static void anHour() {
        Edges.says("An HOUR: each CLOUD that is THERE, by numbers: PLACE is more by DRIFTS of WIND (round)");
        SaltClouds c = Edges.clouds(0, 1, 5, 0, 1, 7);
        c.join(0, 1);
        c.wind(0, -3);
        c.hours(1);
        Edges.due(c.ofCloud(0, 2), 10);
        Edges.due(c.ofCloud(1, 2), 1);
        Edges.due(c.ofCloud(1, 3), 0);
        SaltClouds up = Edges.clouds(0, 11, 100);
        up.hill(0, 5);
        up.wind(0, 1);
        up.hours(1);
        Edges.due(up.ofCloud(0, 3), 90);

        Edges.says("then, at a HEIGHT above 0, it RAINS: WATER is less, SEA more by as much");
        SaltClouds rain = over(1, 0, 3, 0, 0, 0);
        int[] waters = {1, 0, 0};
        int[] seas = {2, 3, 3};
        for (int i = 0; i < waters.length; i++) {
            rain.hours(1);
            Edges.due(rain.ofCloud(0, 3), waters[i]);
            Edges.due(rain.count(2), seas[i]);
        }

        Edges.says("if that is above 0, each SALT that it doesn't KEEP is less by its tenth (cut).");
        int[][] tenths = {{99, 90}, {90, 81}, {20, 18}, {19, 18}, {10, 9}, {9, 9}, {1, 1}, {0, 0}};
        for (int[] tenth : tenths) {
            SaltClouds wet = over(1, 50, 1, tenth[0], tenth[0], tenth[0]);
            wet.hours(1);
            Edges.due(wet.ofCloud(0, 4), tenth[0]);
            Edges.due(wet.ofCloud(0, 5), tenth[1]);
            Edges.due(wet.ofCloud(0, 6), tenth[1]);
            SaltClouds dry = over(1, 50, 0, tenth[0], tenth[0], tenth[0]);
            dry.hours(1);
            Edges.due(dry.ofCloud(0, 5), tenth[0]);
            Edges.due(dry.ofCloud(0, 6), tenth[0]);
        }
        SaltClouds saint = over(4, 38, 50, 99, 99, 99);
        saint.hours(1);
        Edges.due(saint.ofCloud(0, 4), 99);
        Edges.due(saint.ofCloud(0, 3), 50);

        Edges.says("At a HEIGHT of 0 (the sea) it has WATER 1 more instead (999 at most), if m is even.");
        for (int m = 0; m <= 9; m++) {
            for (int kind = 0; kind <= 6; kind++) {
                SaltClouds wet = over(0, 10 * kind + m, 998, 99, 99, 99);
                wet.hours(1);
                Edges.due(wet.ofCloud(0, 3), m % 2 == 0 ? 999 : 998);
                wet.hours(1);
                Edges.due(wet.ofCloud(0, 3), m % 2 == 0 ? 999 : 998);
                Edges.due(wet.ofCloud(0, 4), 99);
                Edges.due(wet.count(2), 0);
            }
        }
        SaltClouds hill = over(1, 10, 5, 0, 0, 0);
        hill.hours(1);
        Edges.due(hill.ofCloud(0, 3), 5);

        Edges.says("Then HOUR is 1 more.");
        SaltClouds winds = Edges.clouds(0, 0, 0, 0, 0, 0);
        winds.wind(0, 1);
        winds.wind(1, 3);
        winds.hours(1);
        Edges.due(winds.count(1), 1);
        Edges.due(winds.ofCloud(0, 2), 1);
        Edges.due(winds.ofCloud(1, 2), 1);
        Edges.due(winds.ofCloud(1, 10), 3);
    }

    private static void joinAndPart() {
        Edges.says("JOIN of two that are THERE, at one PLACE: WATER and SALTS of the first are more by those of the other one (held "
            + "at 999, 99), which is gone, without WATER and SALTS.");
        int[][] sums = {{500, 499, 999}, {500, 500, 999}, {999, 999, 999}, {999, 0, 999}, {0, 0, 0}};
        int[][] salts = {{49, 50, 99}, {50, 50, 99}, {99, 99, 99}, {99, 0, 99}, {0, 0, 0}};
        for (int i = 0; i < sums.length; i++) {
            SaltClouds c = Edges.clouds(31, 11, sums[i][0], 42, 11, sums[i][1]);
            Edges.salts(c, 0, salts[i][0], salts[i][0], salts[i][0]);
            Edges.salts(c, 1, salts[i][1], salts[i][1], salts[i][1]);
            c.join(0, 1);
            int[] first = {3, 1, 11, sums[i][2], salts[i][2], salts[i][2], salts[i][2], 1};
            int[] other = {4, 2, 11, 0, 0, 0, 0, 0};
            for (int what = 0; what < first.length; what++) {
                Edges.due(c.ofCloud(0, what), first[what]);
                Edges.due(c.ofCloud(1, what), other[what]);
            }
        }

        Edges.says("PART of one that is THERE, with another one that is gone: of WATER and of each SALT a half (cut) goes to that "
            + "one, which is THERE then, at the same PLACE.");
        int[] waters = {0, 1, 2, 999};
        int[] halves = {0, 0, 1, 499};
        for (int i = 0; i < waters.length; i++) {
            SaltClouds c = Edges.clouds(31, 11, 0, 42, 11, 0);
            c.join(0, 1);
            c.set(0, 0, 0);
            c.set(0, 1, waters[i]);
            Edges.salts(c, 0, 99, 1, i);
            Edges.due(c.part(0, 1), halves[i]);
            int[] first = {3, 1, 0, waters[i] - halves[i], 50, 1, i - i / 2, 1};
            int[] other = {4, 2, 0, halves[i], 49, 0, i / 2, 1};
            for (int what = 0; what < first.length; what++) {
                Edges.due(c.ofCloud(0, what), first[what]);
                Edges.due(c.ofCloud(1, what), other[what]);
            }
        }
    }

    private static void grammar() {
        Edges.says("TEXTS are read from THE TAPE (bytes, at most 50): T: A { | A }.");
        SaltClouds c = new SaltClouds();
        Edges.due(Edges.text(c, 0, "0|".repeat(24) + "00"), 1);
        Edges.due(c.law(0, 1, 1, 1), 0);
        String five = "!!!!!t+";
        String four = "!!!!t+";
        Edges.due(Edges.text(c, 0, five + five + five + four + four + four + four + "!!!!t"), 1);
        Edges.due(c.law(0, 0, 0, 0), 3);
        Edges.due(c.law(0, 9, 0, 0), 5);
        Edges.due(Edges.text(c, 0, "w"), 1);
        Edges.due(c.law(0, 1, 7, 1), 7);
        Edges.feed(c, "1".repeat(50));
        Edges.due(c.feed('1', 1), Edges.FULL);
        Edges.due(c.text(0), -14);
        Edges.due(Edges.worth("0|0|3", 0, 0, 0), 1);
        Edges.due(Edges.read(0, "0|"), -12);
        Edges.due(Edges.read(0, "|0"), -10);
        Edges.due(Edges.read(0, "0||0"), -12);

        Edges.says("A: B { & B }.");
        Edges.due(Edges.worth("1&2&3", 0, 0, 0), 1);
        Edges.due(Edges.worth("1&2&0", 0, 0, 0), 0);
        Edges.due(Edges.worth("1|0&0", 0, 0, 0), 1);
        Edges.due(Edges.worth("0&0|1", 0, 0, 0), 1);
        Edges.due(Edges.read(0, "1&"), -12);
        Edges.due(Edges.read(0, "1&&1"), -12);

        Edges.says("B: S, or S < S, S = S, S > S.");
        Edges.due(Edges.worth("1<2&3>2&2=2", 0, 0, 0), 1);
        Edges.due(Edges.read(0, "1<2<3"), -13);
        Edges.due(Edges.read(0, "1=2>3"), -13);
        Edges.due(Edges.read(0, "1>2=3"), -13);
        Edges.due(Edges.read(0, "1<=2"), -12);
        Edges.due(Edges.read(0, "1<"), -12);
        Edges.due(Edges.worth("(3>2)>0", 0, 0, 0), 1);

        Edges.says("S: P { + P, - P }.");
        Edges.due(Edges.worth("9-3-2+1", 0, 0, 0), 5);
        Edges.due(Edges.worth("1+1<3", 0, 0, 0), 1);
        Edges.due(Edges.read(0, "-1"), -10);
        Edges.due(Edges.read(0, "1+-1"), -12);

        Edges.says("P: Q { * Q, / Q, % Q }.");
        Edges.due(Edges.worth("2+3*4", 0, 0, 0), 14);
        Edges.due(Edges.worth("100/7*7%9", 0, 0, 0), 8);
        Edges.due(Edges.read(0, "1*"), -12);
        Edges.due(Edges.read(0, "*1"), -10);

        Edges.says("Q: a NUMBER of 1 to 4 digits, a NAME, ! Q, ( T ).");
        Edges.due(Edges.worth("7", 0, 0, 0), 7);
        Edges.due(Edges.worth("9999", 0, 0, 0), 9999);
        Edges.due(Edges.worth("0000", 0, 0, 0), 0);
        Edges.due(Edges.worth("0012", 0, 0, 0), 12);
        Edges.due(Edges.read(0, "12345"), -14);
        Edges.due(Edges.read(0, "00001"), -14);
        Edges.due(Edges.read(0, "t1"), -11);
        Edges.due(Edges.read(0, "1t"), -11);
        Edges.due(Edges.worth("!!5", 0, 0, 0), 1);
        Edges.due(Edges.worth("!t*3", 0, 0, 0), 3);
        Edges.due(Edges.worth("(1+2)*3", 0, 0, 0), 9);
        Edges.due(Edges.read(0, "()"), -11);
        Edges.due(Edges.read(0, "!"), -11);

        Edges.says("No blanks.");
        Edges.due(Edges.read(0, " 1"), -10);
        Edges.due(Edges.read(0, "1 "), -11);
        Edges.due(Edges.read(0, "1 +1"), -11);
        Edges.due(Edges.read(0, "1+\t1"), -12);

        Edges.says("At most 5 of ! and ( are open at once.");
        Edges.due(Edges.worth("!!!!!0", 0, 0, 0), 1);
        Edges.due(Edges.read(0, "!!!!!!0"), -15);
        Edges.due(Edges.worth("(((((7)))))", 0, 0, 0), 7);
        Edges.due(Edges.read(0, "((((((7))))))"), -15);
        Edges.due(Edges.worth("!(!(!7))", 0, 0, 0), 0);
        Edges.due(Edges.read(0, "!(!(!(7)))"), -15);
        Edges.due(Edges.read(0, "(!(!(!7)))"), -15);
        Edges.due(Edges.read(0, "((((1+!7))))"), 1);
        Edges.due(Edges.read(0, "(((((1+!7)))))"), -17);
        Edges.due(Edges.read(0, "!!!!!1+!!!!!1*(((((1)))))"), 1);
        Edges.due(Edges.read(0, "((((!1)+!1)))&(((((1)))))"), 1);
    }

    private static void lettersOfTexts() {
        Edges.says("Ints that wrap");
        Edges.due(Edges.worth("t+1", Edges.MOST, 0, 0), Edges.LEAST);
        Edges.due(Edges.worth("t-1", Edges.LEAST, 0, 0), Edges.MOST);
        Edges.due(Edges.worth("t*2", 1 << 30, 0, 0), Edges.LEAST);
        Edges.due(Edges.worth("t*t", 65536, 0, 0), 0);
        Edges.due(Edges.worth("t*w", Edges.LEAST, -1, 0), Edges.LEAST);
        Edges.due(Edges.worth("9999*9999*9999", 0, 0, 0), 9999 * 9999 * 9999);

        Edges.says("/ cut, % the rest that it leaves, both by 0 are 0");
        int[][] quotients = {{7, 2, 3, 1}, {-7, 2, -3, -1}, {7, -2, -3, 1}, {-7, -2, 3, -1}, {7, 0, 0, 0}, {-7, 0, 0, 0},
            {0, 0, 0, 0}, {Edges.LEAST, -1, Edges.LEAST, 0}, {Edges.LEAST, 0, 0, 0}, {Edges.LEAST, Edges.MOST, -1, -1}};
        for (int[] row : quotients) {
            Edges.due(Edges.worth("t/w", row[0], row[1], 0), row[2]);
            Edges.due(Edges.worth("t%w", row[0], row[1], 0), row[3]);
        }

        Edges.says("| & < = > ! are 1 or 0, what is not 0 being true; all is worked out.");
        int[][] truths = {{0, 0, 0, 0, 0, 1, 0, 1}, {0, 5, 1, 0, 1, 0, 0, 1}, {-5, 0, 1, 0, 1, 0, 0, 0}, {3, -5, 1, 1, 0, 0, 1, 0},
            {Edges.LEAST, Edges.MOST, 1, 1, 1, 0, 0, 0}, {Edges.MOST, Edges.LEAST, 1, 1, 0, 0, 1, 0}, {7, 7, 1, 1, 0, 1, 0, 0}};
        for (int[] row : truths) {
            String[] laws = {"t|w", "t&w", "t<w", "t=w", "t>w", "!t"};
            for (int i = 0; i < laws.length; i++) {
                Edges.due(Edges.worth(laws[i], row[0], row[1], 0), row[i + 2]);
            }
        }
        Edges.due(Edges.worth("1|1/0", 0, 0, 0), 1);
        Edges.due(Edges.worth("0&1%0", 0, 0, 0), 0);
    }

    private static void faults() {
        Edges.says("FAULT: the place of the first byte with which no TEXT goes on");
        Edges.due(Edges.read(0, ")"), -10);
        Edges.due(Edges.read(0, "1)"), -11);
        Edges.due(Edges.read(0, "(1))"), -13);
        Edges.due(Edges.read(0, "(1|2&3=4+5*6!"), -22);
        Edges.due(Edges.read(0, "T"), -10);
        Edges.due(Edges.read(0, "\0"), -10);
        Edges.due(Edges.read(0, "t\u00ff"), -11);
        Edges.due(Edges.read(0, "t\u00f4"), -11);
        Edges.due(Edges.read(0, "1+".repeat(24) + "1*"), -60);
        Edges.due(Edges.read(0, "1+".repeat(24) + "1)"), -59);
        Edges.due(Edges.read(0, "1+".repeat(24) + "+1"), -58);

        Edges.says("how many there are, if it ends too early.");
        Edges.due(Edges.read(0, ""), -10);
        Edges.due(Edges.read(1, ""), -10);
        Edges.due(Edges.read(0, "("), -11);
        Edges.due(Edges.read(0, "(1"), -12);
        Edges.due(Edges.read(0, "(((((1))))"), -20);
        Edges.due(Edges.read(0, "1%"), -12);
        Edges.due(Edges.read(0, "1>"), -12);
    }

    private static void uses() {
        Edges.says("USES: 0 NAME, NAMES t TASTE, w WATER, s SALT 0; any number; without a TEXT t/10.");
        SaltClouds c = Edges.clouds(0, 0, 8);
        Edges.salts(c, 0, 1, 2, 3);
        Edges.due(c.ofCloud(0, 9), 7);
        Edges.due(c.law(0, 79, 1, 2), 7);
        Edges.due(c.law(0, -79, 1, 2), -7);
        Edges.text(c, 0, "t*100+w*10+s");
        Edges.due(c.ofCloud(0, 9), 7581);
        Edges.due(Edges.read(0, "a"), -10);
        Edges.due(Edges.read(0, "b"), -10);
        Edges.due(Edges.read(0, "h"), -10);
        Edges.text(c, 0, "0-9999*9999*10-9999*20-11");
        Edges.due(c.ofCloud(0, 9), Edges.BEYOND);
        Edges.due(c.told(1), 0);

        Edges.says("1 DEBT (that one owes another one who is THERE at its PLACE), NAMES a the own NAME, b the other's, h HEIGHT; held "
            + "within 0 to 99; without a TEXT (a>b)*(a-b)%9.");
        SaltClouds d = Edges.clouds(0, 3, 100, 0, 3, 50);
        int[][] debts = {{10, 9, 1}, {17, 9, 8}, {18, 9, 0}, {19, 9, 1}, {9, 9, 0}, {8, 9, 0}, {0, -8, 8}, {Edges.MOST, -2, 0},
            {Edges.MOST, Edges.LEAST, 0}, {Edges.LEAST, Edges.MOST, 0}};
        for (int[] row : debts) {
            Edges.due(d.law(1, row[0], row[1], 5), row[2]);
        }
        Edges.text(d, 1, "a+b+h");
        int[][] held = {{0, 0, 0, 0}, {98, 0, 0, 98}, {90, 9, 0, 99}, {90, 9, 1, 99}, {-1, 0, 0, 0}, {Edges.MOST, 0, 0, 99},
            {Edges.LEAST, 0, 0, 0}, {Edges.MOST, 1, 0, 0}};
        for (int[] row : held) {
            Edges.due(d.law(1, row[0], row[1], row[2]), row[3]);
        }
        Edges.text(d, 0, "w/50");
        Edges.text(d, 1, "a*10-b*3+h");
        d.hill(3, 4);
        Edges.due(d.pay(), 20 - 3 + 4 + 10 - 3 + 4);
        Edges.due(Edges.read(1, "t"), -10);
        Edges.due(Edges.read(1, "w"), -10);
        Edges.due(Edges.read(1, "s"), -10);
    }

    private static void thoughts() {
        Edges.says("(All this is only thought.)");
        SaltClouds thought = Edges.sky();
        thought.nobodyBy(0);
        thought.first();
        thought.comes(5, 0);
        thought.stays(0);
        thought.meets(0, 1);
        thought.storm(1, 0);
        thought.paid();
        thought.sun(0, 1, 0);
        thought.winds(0, 0, 0);
        thought.then(9, 0, 3);
        SaltClouds left = Edges.sky();
        for (int what = 0; what <= 9; what++) {
            Edges.due(thought.count(what), left.count(what));
        }
        for (int cloud = 0; cloud < 5; cloud++) {
            for (int what = 0; what <= 11; what++) {
                Edges.due(thought.ofCloud(cloud, what), left.ofCloud(cloud, what));
            }
        }

        Edges.says("NOBODY BY: behind how many HOURS (0 to 200) a CLOUD is NOBODY first.");
        Edges.due(Edges.fading(301).nobodyBy(0), 0);
        Edges.due(Edges.fading(300).nobodyBy(0), 1);
        Edges.due(Edges.fading(101).nobodyBy(0), 200);
        Edges.due(Edges.fading(100).nobodyBy(0), Edges.NONE);

        Edges.says("FIRST: of all that are THERE the one for which that is soonest; of several the least.");
        Edges.due(Edges.fading(100, 101, 102, 102).first(), 2);
        Edges.due(Edges.fading(302, 301).first(), 0);
        SaltClouds gone = Edges.fading(200, 200, 299);
        gone.join(1, 0);
        Edges.due(gone.ofCloud(1, 8), 15);
        gone.set(1, 1, 800);
        gone.set(1, 2, 99);
        Edges.due(gone.first(), 2);

        Edges.says("MEETS: behind how many HOURS (0 to 200) two that are THERE are at one PLACE first.");
        SaltClouds c = Edges.clouds(0, 0, 0, 60, 11, 0, 60, 0, 0);
        Edges.due(c.meets(0, 2), 0);
        Edges.due(c.meets(0, 1), Edges.NONE);
        c.wind(7, 1);
        Edges.due(c.meets(0, 1), 88);
        c.wind(0, -1);
        Edges.due(c.meets(0, 1), 1);
        c.join(0, 2);
        Edges.due(c.meets(0, 2), Edges.STATE);
    }

    private static void sets() {
        Edges.says("COMES: of all sets of CLOUDS that are THERE (not none), wherever they are, all joined into one (WATER, SALTS "
            + "together, not held): those with a TASTE that is told: the fewest CLOUDS; of several the least set (as bits).");
        SaltClouds none = new SaltClouds();
        Edges.due(none.comes(9999, 0), Edges.NONE);
        SaltClouds c = Edges.clouds(0, 0, 999, 0, 5, 999, 0, 6, 999, 0, 6, 999);
        Edges.salts(c, 0, 99, 0, 0);
        Edges.salts(c, 1, 99, 99, 99);
        Edges.salts(c, 2, 99, 0, 0);
        Edges.salts(c, 3, 99, 99, 99);
        Edges.due(c.comes(29, 0), 2);
        Edges.due(c.comes(19, 0), 3);
        Edges.due(c.comes(9, 0), 1);
        Edges.due(c.comes(23, 0), 11);
        Edges.due(c.comes(23, 1), 3);
        Edges.due(c.comes(39, 0), Edges.NONE);
        c.join(2, 3);
        Edges.due(c.comes(29, 0), 2);
        Edges.due(c.comes(9999, 0), Edges.NONE);
        SaltClouds two = Edges.clouds(0, 0, 10, 0, 0, 10, 0, 0, 10, 0, 0, 20);
        two.set(0, 2, 1);
        two.set(1, 2, 3);
        two.set(3, 2, 4);
        Edges.due(two.comes(20, 0), 8);
        two.set(3, 2, 6);
        Edges.due(two.comes(20, 0), 3);

        Edges.says("NEVER: no set has it; what stays: WATER and each SALT of all that are THERE, together.");
        Edges.due(two.comes(31, 0), Edges.NONE);
        Edges.due(two.comes(31, 1), Edges.NONE);
        int[] stays = {50, 10, 0, 0};
        for (int what = 0; what < 4; what++) {
            Edges.due(two.stays(what), stays[what]);
            Edges.due(none.stays(what), 0);
        }
        two.join(0, 1);
        Edges.due(two.stays(0), 50);
        Edges.due(two.stays(1), 10);

        Edges.says("IN A STORM: a SHEET tells WATER and SALTS 0 to 2 (four numbers just): sets of CLOUDS that are THERE (not none) "
            + "that have just so much together: the least, how many.");
        SaltClouds storm = Edges.clouds(0, 0, 999, 0, 1, 999, 0, 2, 0, 0, 2, 0);
        Edges.salts(storm, 0, 99, 1, 0);
        Edges.salts(storm, 1, 99, 1, 0);
        Edges.sheet(storm, 0, 16, 1998, 198, 2, 0);
        Edges.due(storm.storm(0, 0), 3);
        Edges.due(storm.storm(0, 1), 4);
        Edges.sheet(storm, 0, 16, 999, 99, 1, 0);
        Edges.due(storm.storm(0, 0), 1);
        Edges.due(storm.storm(0, 1), 8);
        storm.sheet(0, 16, 4);
        Edges.due(storm.storm(0, 0), 4);
        Edges.due(storm.storm(0, 1), 3);
        storm.join(2, 3);
        Edges.due(storm.storm(0, 1), 1);
        storm.set(2, 4, 1);
        Edges.due(storm.storm(0, 0), Edges.NONE);
        storm.sheet(0, 16, 3);
        Edges.due(storm.storm(0, 0), Edges.NONE);
        storm.sheet(0, 16, 5);
        Edges.due(storm.storm(0, 0), Edges.NONE);
    }

    private static void debts() {
        Edges.says("DEBTS: each that is THERE, by numbers, owes each other one that is THERE at its PLACE, by numbers, DEBT (by NAMES "
            + "and HEIGHT as they are then): as much WATER goes to that one (no more than it has; 999 at most there: the rest "
            + "is lost).");
        SaltClouds c = Edges.clouds(0, 11, 10, 0, 11, 20, 0, 0, 99, 0, 11, 5, 0, 11, 0);
        c.join(3, 4);
        Edges.text(c, 0, "w");
        Edges.text(c, 1, "(a>b)*(a-b)+h");
        // 0 gives 3 5 (5, 20, 10); 1 gives 0 15 (20, 5, 10); 3 gives 0 nothing, and 1 5 (20, 10, 5).
        Edges.due(c.pay(), 5 + 15 + 5);
        Edges.due(c.ofCloud(0, 3), 20);
        Edges.due(c.ofCloud(1, 3), 10);
        Edges.due(c.ofCloud(3, 3), 5);
        Edges.due(c.ofCloud(2, 3), 99);
        Edges.due(c.ofCloud(4, 3), 0);
        SaltClouds hill = Edges.clouds(0, 11, 5, 0, 11, 990);
        hill.hill(11, 9);
        Edges.text(hill, 1, "h");
        Edges.due(hill.pay(), 5 + 9);
        Edges.due(hill.ofCloud(0, 3), 9);
        Edges.due(hill.ofCloud(1, 3), 986);
        Edges.text(hill, 1, "(b=5)*99");
        Edges.text(hill, 0, "w");
        hill.set(0, 1, 50);
        hill.set(1, 1, 5);
        Edges.due(hill.pay(), 50);
        Edges.due(hill.ofCloud(0, 3), 0);
        Edges.due(hill.ofCloud(1, 3), 55);
        Edges.text(hill, 1, "(a=99)*99");
        int[][] lost = {{900, 999}, {901, 999}, {950, 999}, {999, 999}, {899, 998}, {0, 99}};
        for (int[] row : lost) {
            hill.set(0, 1, 99);
            hill.set(1, 1, row[0]);
            Edges.due(hill.pay(), 99 + (row[1] == 99 ? 99 : 0));
            Edges.due(hill.ofCloud(0, 3), row[1] == 99 ? 99 : 0);
            Edges.due(hill.ofCloud(1, 3), row[1] == 99 ? 0 : row[1]);
        }

        SaltClouds full = Edges.clouds(0, 3, 100, 0, 3, 100, 0, 3, 100, 0, 3, 100, 0, 3, 100, 0, 3, 100, 0, 3, 100, 0, 3, 100);
        Edges.text(full, 1, "2");
        Edges.due(full.paid(), 8 * 7 * 2);
        Edges.due(full.pay(), 8 * 7 * 2);
        for (int cloud = 0; cloud < 8; cloud++) {
            Edges.due(full.ofCloud(cloud, 3), 100);
        }

        Edges.says("PAID: how much WATER would go in one such round.");
        SaltClouds would = Edges.clouds(0, 11, 10, 0, 11, 20);
        Edges.due(would.paid(), 0);
        Edges.text(would, 1, "99");
        Edges.due(would.paid(), 10 + 30);
        Edges.due(would.paid(), 10 + 30);
        Edges.due(would.ofCloud(0, 3), 10);
        Edges.due(new SaltClouds().paid(), 0);
    }

    private static void sunAndWinds() {
        Edges.says("SUN: which SALT of a CLOUD is first less than v (0 to 99), if each minute SALT 0 is 1 less, SALT 1 2, SALT 2 3 "
            + "(0 at least): of several the least.");
        SaltClouds c = Edges.clouds(0, 0, 0);
        int[][] dues = {{0, 0, 0, 1, 0, 0}, {1, 0, 0, 1, 1, 0}, {1, 1, 0, 1, 2, 0}, {1, 1, 1, 1, 0, 1}, {2, 2, 2, 1, 1, 1},
            {3, 3, 3, 1, 2, 1}, {4, 4, 4, 1, 1, 2}, {99, 99, 99, 99, 0, 1}, {98, 99, 99, 99, 0, 0}, {99, 99, 99, 1, 2, 33},
            {99, 99, 98, 1, 2, 33}, {50, 99, 99, 1, 2, 33}, {32, 99, 99, 1, 0, 32}, {33, 99, 99, 1, 0, 33}, {99, 65, 99, 1, 1, 33},
            {99, 66, 99, 1, 1, 33}, {99, 67, 99, 1, 2, 33}, {33, 65, 97, 1, 0, 33}};
        for (int[] due : dues) {
            Edges.salts(c, 0, due[0], due[1], due[2]);
            Edges.due(c.sun(0, due[3], 0), due[4]);
            Edges.due(c.sun(0, due[3], 1), due[5]);
        }
        Edges.due(c.sun(0, 0, 0), Edges.BEYOND);
        Edges.due(c.ofCloud(0, 4), 33);

        Edges.says("WINDS: a SHEET tells PLACES of a CLOUD behind 1, 2, .. HOURS (8 at most count): the least WINDS of those HOURS, one "
            + "by one (each by itself -3 to 3), by which all that counts is so.");
        int[][] byKind = {{-3, -2, -1, 0, 1, 2, 3}, {-9, -9, -3, -1, 2, -9, -9}, {-9, -1, -9, 0, -9, 1, -9}};
        for (int kind = 0; kind < byKind.length; kind++) {
            for (int step = -3; step <= 3; step++) {
                SaltClouds one = Edges.clouds(10 * kind, 1, 0);
                Edges.sheet(one, 0, 8, Math.floorMod(1 + step, 12));
                int due = byKind[kind][step + 3];
                Edges.due(one.winds(0, 0, 0), due == -9 ? Edges.NONE : due);
            }
        }
        SaltClouds veil = Edges.clouds(41, 11, 0);
        Edges.sheet(veil, 0, 8, 11, 0, 2, 2, 3, 5, 5, 6, 99);
        int[] winds = {-3, -1, 2, -3, -1, 2, -3, -1};
        for (int i = 0; i < winds.length; i++) {
            Edges.due(veil.winds(0, 0, i), winds[i]);
        }
        veil.put(0, 7, 99);
        Edges.due(veil.winds(0, 0, 0), Edges.NONE);
    }

    private static void draws() {
        Edges.says("HOURS by draws: z is told (1 at first); each makes it z * 1103515245 + 12345 (an int), and gives z >>> 8.");
        SaltClouds c = Edges.clouds(0, 0, 0);
        Edges.due(c.count(9), 1);
        c.loose(1);
        Edges.due(c.count(9), 1103527590);
        c.loose(1);
        Edges.due(c.count(9), -1770082073);
        c.loose(200);
        int z = 1;
        for (int i = 0; i < 202; i++) {
            z = z * 1103515245 + 12345;
        }
        Edges.due(c.count(9), z);

        Edges.says("In each HOUR, instead of WIND, a draw: its rest by 7, less 3.");
        int seen = 0;
        for (int seed = -20; seed < 20; seed++) {
            SaltClouds d = Edges.clouds(0, 6, 0, 60, 6, 0);
            d.wind(0, 3);
            d.seed(seed);
            d.loose(1);
            int wind = ((seed * 1103515245 + 12345) >>> 8) % 7 - 3;
            seen |= 1 << wind + 3;
            Edges.due(d.ofCloud(0, 2), 6 + wind);
            Edges.due(d.ofCloud(1, 2), 6);
            Edges.due(d.count(1), 1);
        }
        Edges.due(seen, 127);
    }

    private static void voiceDue(int kind, int act, int x, int due, int... bodies) {
        SaltClouds c = Edges.clouds(10 * kind + 4, 0, 0, 10 * kind + 4, 0, 0);
        Edges.due(c.voice(1, act, x), due);
        Edges.due(c.count(8), bodies.length);
        for (int i = 0; i < bodies.length; i++) {
            Edges.due(c.trace(i), bodies[i]);
        }
        Edges.due(c.trace(bodies.length), Edges.NONE);
    }

    /** All speak as CLOUD 1 (n is 1), with m 4. */
    private static void voices() {
        Edges.says("VOICES of a CLOUD, with a number x (ints that go round); n is the number, m as told: 0 drifts, 1 rains, 2 tastes, 3 "
            + "tells.");
        voiceDue(0, 0, 0, 1, 10);
        voiceDue(0, 1, 0, 2, 11, 10);
        voiceDue(0, 2, 0, -4, 12);
        voiceDue(0, 3, 0, 2 ^ -4, 13, 11, 10, 12);
        Edges.says("BODIES: CLOUD: 10 drifts: x + n.");
        voiceDue(0, 0, Edges.MOST, Edges.LEAST, 10);
        voiceDue(6, 0, -1, 0, 10);
        Edges.says("11 rains: drifts(x) * 2.");
        voiceDue(0, 1, Edges.MOST, 0, 11, 10);
        voiceDue(3, 1, 1 << 30, Edges.LEAST + 2, 11, 10);
        Edges.says("12 tastes: x - m.");
        voiceDue(0, 2, Edges.LEAST, Edges.MOST - 3, 12);
        voiceDue(5, 2, 4, 0, 12);
        Edges.says("13 tells: rains(x) ^ tastes(x).");
        voiceDue(0, 3, Edges.MOST, Edges.MOST - 4, 13, 11, 10, 12);
        voiceDue(2, 3, 5, 15 ^ 1, 13, 30, 11, 10, 12, 12);
        Edges.says("MIST: 20 drifts: super.drifts(x) * 3.");
        voiceDue(1, 0, 5, 18, 20, 10);
        voiceDue(1, 0, Edges.MOST, Edges.LEAST, 20, 10);
        voiceDue(1, 1, 5, 36, 11, 20, 10);
        voiceDue(1, 3, 5, 36 ^ 1, 13, 11, 20, 10, 12);
        Edges.says("STORM: 30 rains: super.rains(x) - tastes(1).");
        voiceDue(2, 1, 5, 15, 30, 11, 10, 12);
        voiceDue(2, 1, (1 << 30) - 3, Edges.MOST, 30, 11, 10, 12);
        voiceDue(2, 1, (1 << 30) - 1, Edges.LEAST + 3, 30, 11, 10, 12);
        Edges.says("SAINT: 40 tastes: -super.tastes(x).");
        voiceDue(3, 2, 5, -1, 40, 12);
        voiceDue(3, 2, Edges.LEAST + 4, Edges.LEAST, 40, 12);
        Edges.says("VEIL: 50 tells: super.tells(x) - drifts(2).");
        voiceDue(4, 3, 5, (36 ^ 1) - 9, 50, 13, 11, 20, 10, 12, 20, 10);
        voiceDue(4, 0, 5, 18, 20, 10);
        Edges.says("FEUD: 60 rains: super.rains(x + 1).");
        voiceDue(5, 1, 5, 17, 60, 30, 11, 10, 12);
        voiceDue(5, 1, Edges.MOST, 2 * (Edges.LEAST + 1) + 3, 60, 30, 11, 10, 12);
        Edges.says("BEACH: 70 tastes: super.tastes(x) ^ n.");
        voiceDue(6, 2, 5, -1 ^ 1, 70, 40, 12);
        Edges.says("71 tells: rains(x) - super.tells(x).");
        voiceDue(6, 3, 5, 12 - (12 ^ -1 ^ 1), 71, 11, 10, 13, 11, 10, 70, 40, 12);
        Edges.says("drifts(..) is the BODY of its KIND, or of the next KIND above that has one; super.drifts(..) that from the KIND "
            + "above the BODY's on.");
        voiceDue(5, 3, 5, 17 ^ 1, 13, 60, 30, 11, 10, 12, 12);
        voiceDue(4, 1, 5, 36, 11, 20, 10);
        voiceDue(6, 1, 5, 12, 11, 10);

        Edges.says("THE TRACE: the numbers of BODIES of the latest voice(), as they began (what stands left is worked out first), the "
            + "first 40.");
        SaltClouds c = Edges.clouds(64, 0, 0);
        Edges.due(c.trace(0), Edges.NONE);
        c.voice(0, 3, 5);
        Edges.due(c.count(8), 9);
        c.voice(0, 2, 5);
        Edges.due(c.count(8), 3);
        c.voice(0, 4, 5);
        Edges.due(c.count(8), 3);
        Edges.due(c.trace(0), 70);
        Edges.due(c.trace(3), Edges.NONE);
        Edges.due(c.trace(40), Edges.NONE);
    }

    private static void sheets() {
        Edges.says("SHEETS 0 .. 3 are rows of 8, 16, 32 bits, at most 40 numbers, or missing (as at first).");
        SaltClouds c = new SaltClouds();
        for (int sheet = 0; sheet <= 3; sheet++) {
            Edges.due(c.put(sheet, 0, 0), Edges.NONE);
            for (int bits : new int[] {8, 16, 32}) {
                Edges.due(c.sheet(sheet, bits, 40), 1);
                Edges.due(c.put(sheet, 39, 0), 1);
                Edges.due(c.put(sheet, 40, 0), Edges.BEYOND);
                Edges.due(c.sheet(sheet, bits, 41), Edges.BEYOND);
                Edges.due(c.put(sheet, 39, 0), 1);
            }
            Edges.due(c.sheet(sheet, 0, 0), 1);
            Edges.due(c.put(sheet, 0, 0), Edges.NONE);
        }
    }
}
