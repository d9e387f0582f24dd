/** What the document promises, promise by promise, with answers worked out from its words. */
public final class PromiseTests {
    private static final int LOW = -1000000000;
    private static final int BEYOND = LOW - 1;
    private static final int NONE = LOW - 2;
    private static final int STATE = LOW - 3;
    private static final int FULL = LOW - 4;
    private static final int KIND = LOW - 5;
    private static final int LEAST = Integer.MIN_VALUE;
    private static final int MOST = Integer.MAX_VALUE;

    private PromiseTests() {
    }

    public static void main(String[] args) {
        aNewObject();
        clouds();
        ofClouds();
        drifts();
        rainsAt();
        becoming();
        asKind();
        setting();
        hillsOfPlaces();
        windsOfHours();
        joining();
        parting();
        feeding();
        texts();
        faults();
        laws();
        passingHours();
        rainOverHills();
        looseHours();
        thens();
        paying();
        nobodyBys();
        firsts();
        coming();
        staying();
        meeting();
        storms();
        paidOnly();
        suns();
        windsFound();
        seeds();
        voices();
        traces();
        layingSheets();
        putting();
        moving();
        hillsFromSheets();
        judging();
        imaging();
        restoring();
        telling();
        checking();
        counting();
        beingTold();
        Report.end("PromiseTests");
    }

    private static void due(long got, long want) {
        if (got != want) {
            Report.fail(line() + " answered " + got + ", due is " + want);
            return;
        }
        Report.pass();
    }

    private static String line() {
        StackTraceElement place = new Throwable().getStackTrace()[2];
        return place.getMethodName() + ", line " + place.getLineNumber() + ":";
    }

    private static void feedAll(SaltClouds c, String text) {
        for (int i = 0; i < text.length(); i++) {
            c.feed(text.charAt(i), 1);
        }
    }

    private static int textOf(SaltClouds c, int use, String text) {
        feedAll(c, text);
        return c.text(use);
    }

    private static int worked(String text, int a, int b, int h) {
        SaltClouds c = new SaltClouds();
        due(textOf(c, 0, text), 1);
        return c.law(0, a, b, h);
    }

    private static void lay(SaltClouds c, int sheet, int bits, int... numbers) {
        c.sheet(sheet, bits, numbers.length);
        for (int i = 0; i < numbers.length; i++) {
            c.put(sheet, i, numbers[i]);
        }
    }

    private static void salt(SaltClouds c, int cloud, int a, int b, int d) {
        c.set(cloud, 2, a);
        c.set(cloud, 3, b);
        c.set(cloud, 4, d);
    }

    private static void errorsTold(SaltClouds c, int beyond, int none, int state, int full, int kind) {
        due(c.told(1), beyond);
        due(c.told(2), none);
        due(c.told(3), state);
        due(c.told(4), full);
        due(c.told(5), kind);
    }

    private static void aNewObject() {
        SaltClouds c = new SaltClouds();
        for (int what = 0; what <= 8; what++) {
            due(c.count(what), 0);
        }
        due(c.count(9), 1);
        for (int k = 1; k <= 5; k++) {
            due(c.told(k), 0);
        }
        for (int place = 0; place < 12; place++) {
            due(c.hill(place, 0), 0);
        }
        for (int h = 0; h < 8; h++) {
            due(c.wind(h, 0), 0);
        }
        for (int sheet = 0; sheet < 4; sheet++) {
            due(c.put(sheet, 0, 0), NONE);
        }
        due(c.law(0, 95, 7, 7), 9);
        due(c.law(1, 20, 3, 7), 8);
        due(c.trace(0), NONE);
        due(c.restore(), NONE);
        due(c.check(), 0);
        due(c.ofCloud(0, 0), BEYOND);
        due(c.image(), 1);
    }

    private static void clouds() {
        SaltClouds c = new SaltClouds();
        due(c.cloud(-1, 0, 0), BEYOND);
        due(c.cloud(70, 0, 0), BEYOND);
        due(c.cloud(LEAST, 0, 0), BEYOND);
        due(c.cloud(0, -1, 0), BEYOND);
        due(c.cloud(0, 12, 0), BEYOND);
        due(c.cloud(0, 0, -1), BEYOND);
        due(c.cloud(0, 0, 1000), BEYOND);
        due(c.count(0), 0);
        due(c.cloud(0, 0, 0), 0);
        due(c.cloud(69, 11, 999), 1);
        due(c.cloud(47, 3, 12), 2);
        int[] facts = {4, 7, 3, 12, 0, 0, 0, 1, 0};
        for (int what = 0; what < facts.length; what++) {
            due(c.ofCloud(2, what), facts[what]);
        }
        due(c.ofCloud(1, 0), 6);
        due(c.ofCloud(1, 1), 9);
        due(c.ofCloud(1, 2), 11);
        due(c.ofCloud(1, 3), 999);
        for (int i = 3; i < 8; i++) {
            due(c.cloud(0, 0, 0), i);
        }
        due(c.cloud(0, 0, 0), FULL);
        due(c.cloud(70, 0, 0), BEYOND);
        due(c.cloud(0, 12, 0), BEYOND);
        due(c.cloud(0, 0, 1000), BEYOND);
        due(c.join(3, 4), 0);
        due(c.cloud(0, 0, 0), FULL);
        due(c.count(0), 8);
        errorsTold(c, 10, 0, 0, 2, 0);
    }

    private static void ofClouds() {
        SaltClouds c = new SaltClouds();
        c.cloud(0, 2, 7);
        salt(c, 0, 3, 4, 5);
        int[] facts = {0, 0, 2, 7, 3, 4, 5, 1, 171, 17, 0, 0};
        for (int what = 0; what < facts.length; what++) {
            due(c.ofCloud(0, what), facts[what]);
        }
        due(c.ofCloud(0, -1), BEYOND);
        due(c.ofCloud(0, 12), BEYOND);
        due(c.ofCloud(1, 0), BEYOND);
        due(c.ofCloud(-1, 0), BEYOND);
        due(c.ofCloud(MOST, LEAST), BEYOND);
        c.set(0, 1, 1);
        salt(c, 0, 99, 0, 0);
        due(c.ofCloud(0, 8), 9900);
        salt(c, 0, 99, 1, 0);
        due(c.ofCloud(0, 8), 9999);
        salt(c, 0, 0, 0, 0);
        due(c.ofCloud(0, 8), 0);
        c.set(0, 1, 0);
        due(c.ofCloud(0, 8), 9999);
        due(c.ofCloud(0, 9), 999);
        due(textOf(c, 0, "0-9999*9999*11"), 1);
        due(c.ofCloud(0, 9), -1099780011);
        errorsTold(c, 5, 0, 0, 0, 0);
        due(textOf(c, 0, "t*10+w*3-s"), 1);
        c.set(0, 1, 40);
        salt(c, 0, 2, 9, 9);
        due(c.ofCloud(0, 9), 500 + 120 - 2);
        c.cloud(0, 2, 5);
        c.join(1, 0);
        due(c.ofCloud(0, 7), 0);
        due(c.ofCloud(0, 3), 0);
        due(c.ofCloud(0, 4), 0);
        due(c.ofCloud(0, 8), 9999);
        due(c.ofCloud(0, 9), 99990);
        due(c.ofCloud(0, 2), 2);
    }

    private static void driftsDue(int km, int[] due) {
        SaltClouds c = new SaltClouds();
        c.cloud(km, 0, 0);
        for (int v = -3; v <= 3; v++) {
            c.wind(0, v);
            due(c.ofCloud(0, 10), due[v + 3]);
        }
    }

    private static void drifts() {
        driftsDue(1, new int[] {-3, -2, -1, 0, 1, 2, 3});
        driftsDue(11, new int[] {-1, -1, 0, 0, 0, 1, 1});
        driftsDue(21, new int[] {-6, -4, -2, 0, 2, 4, 6});
        driftsDue(31, new int[] {-3, -2, -1, 0, 1, 2, 3});
        driftsDue(41, new int[] {0, 0, 1, 1, 1, 2, 2});
        driftsDue(48, new int[] {-1, -1, 0, 0, 0, 1, 1});
        driftsDue(51, new int[] {-6, -4, -2, 0, 2, 4, 6});
        driftsDue(61, new int[] {0, 0, 0, 0, 0, 0, 0});
        SaltClouds c = new SaltClouds();
        c.cloud(0, 0, 0);
        c.wind(1, 2);
        due(c.ofCloud(0, 10), 0);
        c.hours(1);
        due(c.ofCloud(0, 10), 2);
        c.hours(8);
        due(c.ofCloud(0, 10), 2);
    }

    private static void rainDue(int km, int height, int due) {
        SaltClouds c = new SaltClouds();
        c.hill(5, height);
        c.cloud(km, 5, 999);
        due(c.ofCloud(0, 11), due);
        if (due > 0) {
            c.set(0, 1, due - 1);
            due(c.ofCloud(0, 11), due - 1);
        }
        c.set(0, 0, 4);
        due(c.ofCloud(0, 11), 0);
    }

    private static void rainsAt() {
        rainDue(5, 4, 8);
        rainDue(15, 4, 0);
        rainDue(25, 4, 13);
        rainDue(35, 4, 3);
        rainDue(38, 4, 0);
        rainDue(39, 4, 0);
        rainDue(45, 4, 0);
        rainDue(55, 4, 26);
        rainDue(65, 4, 3);
        rainDue(69, 1, 0);
        rainDue(59, 9, 54);
        rainDue(29, 0, 0);
    }

    private static void becoming() {
        SaltClouds c = new SaltClouds();
        c.cloud(23, 4, 60);
        salt(c, 0, 1, 2, 3);
        due(c.become(0, 69), 2);
        due(c.become(0, 0), 6);
        due(c.become(0, 40), 0);
        due(c.ofCloud(0, 0), 4);
        due(c.ofCloud(0, 1), 0);
        due(c.ofCloud(0, 2), 4);
        due(c.ofCloud(0, 3), 60);
        due(c.ofCloud(0, 6), 3);
        due(c.become(0, -1), BEYOND);
        due(c.become(0, 70), BEYOND);
        due(c.become(1, 0), BEYOND);
        due(c.become(-1, 0), BEYOND);
        due(c.ofCloud(0, 0), 4);
        c.cloud(0, 4, 0);
        c.join(1, 0);
        due(c.become(0, 57), 4);
        due(c.ofCloud(0, 0), 5);
        due(c.ofCloud(0, 7), 0);
        errorsTold(c, 4, 0, 0, 0, 0);
    }

    private static void asKind() {
        String[] above = {"0", "01", "02", "03", "014", "025", "036"};
        for (int kind = 0; kind <= 6; kind++) {
            SaltClouds c = new SaltClouds();
            c.cloud(10 * kind + 7, 0, 0);
            for (int other = 0; other <= 6; other++) {
                due(c.as(0, other), above[kind].indexOf('0' + other) >= 0 ? 7 : KIND);
            }
            due(c.as(0, 7), BEYOND);
            due(c.as(0, -1), BEYOND);
            due(c.as(1, 0), BEYOND);
            due(c.as(-1, 0), BEYOND);
            errorsTold(c, 4, 0, 0, 0, 7 - above[kind].length());
        }
    }

    private static void setting() {
        SaltClouds c = new SaltClouds();
        c.cloud(0, 3, 50);
        int[] most = {11, 999, 99, 99, 99};
        int[] was = {3, 50, 0, 0, 0};
        for (int what = 0; what < 5; what++) {
            due(c.set(0, what, most[what] + 1), BEYOND);
            due(c.set(0, what, -1), BEYOND);
            due(c.set(0, what, most[what]), was[what]);
            due(c.ofCloud(0, what + 2), most[what]);
            due(c.set(0, what, 0), most[what]);
            due(c.ofCloud(0, what + 2), 0);
        }
        due(c.set(0, 5, 0), BEYOND);
        due(c.set(0, -1, 0), BEYOND);
        due(c.set(1, 0, 0), BEYOND);
        due(c.set(-1, 0, 0), BEYOND);
        c.cloud(0, 0, 0);
        c.join(1, 0);
        due(c.set(0, 1, 1), STATE);
        due(c.set(0, 1, 1000), BEYOND);
        due(c.ofCloud(0, 3), 0);
        errorsTold(c, 15, 0, 1, 0, 0);
    }

    private static void hillsOfPlaces() {
        SaltClouds c = new SaltClouds();
        for (int place = 0; place < 12; place++) {
            due(c.hill(place, place % 10), 0);
        }
        for (int place = 0; place < 12; place++) {
            due(c.hill(place, 9), place % 10);
        }
        due(c.hill(-1, 0), BEYOND);
        due(c.hill(12, 0), BEYOND);
        due(c.hill(0, -1), BEYOND);
        due(c.hill(0, 10), BEYOND);
        due(c.hill(0, 0), 9);
        due(c.told(1), 4);
    }

    private static void windsOfHours() {
        SaltClouds c = new SaltClouds();
        for (int h = 0; h < 8; h++) {
            due(c.wind(h, h % 7 - 3), 0);
        }
        for (int h = 0; h < 8; h++) {
            due(c.wind(h, 3), h % 7 - 3);
        }
        due(c.wind(-1, 0), BEYOND);
        due(c.wind(8, 0), BEYOND);
        due(c.wind(0, -4), BEYOND);
        due(c.wind(0, 4), BEYOND);
        due(c.wind(0, -3), 3);
        due(c.told(1), 4);
    }

    private static void joining() {
        SaltClouds c = new SaltClouds();
        c.cloud(11, 3, 600);
        c.cloud(22, 3, 300);
        c.cloud(33, 4, 10);
        salt(c, 0, 60, 1, 2);
        salt(c, 1, 60, 98, 3);
        due(c.join(0, 0), BEYOND);
        due(c.join(0, 3), BEYOND);
        due(c.join(-1, 0), BEYOND);
        due(c.join(0, 2), STATE);
        due(c.join(0, 1), 900);
        int[] first = {1, 1, 3, 900, 99, 99, 5, 1};
        int[] other = {2, 2, 3, 0, 0, 0, 0, 0};
        for (int what = 0; what < first.length; what++) {
            due(c.ofCloud(0, what), first[what]);
            due(c.ofCloud(1, what), other[what]);
        }
        due(c.join(0, 1), STATE);
        due(c.join(1, 0), STATE);
        due(c.join(1, 1), BEYOND);
        c.set(2, 0, 3);
        c.set(2, 1, 100);
        due(c.join(2, 0), 999);
        errorsTold(c, 4, 0, 3, 0, 0);
    }

    private static void parting() {
        SaltClouds c = new SaltClouds();
        c.cloud(11, 3, 0);
        c.cloud(22, 3, 75);
        salt(c, 1, 9, 98, 1);
        due(c.part(0, 1), STATE);
        c.join(0, 1);
        due(c.part(1, 0), STATE);
        due(c.part(0, 0), BEYOND);
        due(c.part(0, 2), BEYOND);
        due(c.part(-1, 0), BEYOND);
        c.set(0, 0, 8);
        due(c.part(0, 1), 37);
        int[] first = {1, 1, 8, 38, 5, 49, 1, 1};
        int[] other = {2, 2, 8, 37, 4, 49, 0, 1};
        for (int what = 0; what < first.length; what++) {
            due(c.ofCloud(0, what), first[what]);
            due(c.ofCloud(1, what), other[what]);
        }
        due(c.part(0, 1), STATE);
        c.cloud(0, 0, 0);
        c.set(0, 0, 0);
        c.join(2, 0);
        c.set(1, 0, 0);
        c.join(2, 1);
        due(c.part(0, 1), STATE);
        errorsTold(c, 3, 0, 4, 0, 0);
    }

    private static void feeding() {
        SaltClouds c = new SaltClouds();
        due(c.feed(0x74L, 0), BEYOND);
        due(c.feed(0x74L, 9), BEYOND);
        due(c.feed(0x74L, -1), BEYOND);
        due(c.feed(0x2A77312B74L, 3), 3);
        due(c.count(6), 3);
        due(c.text(0), 1);
        due(c.law(0, 41, 5, 0), 42);
        due(c.feed(0x392B382B372B3631L, 8), 8);
        due(c.text(0), 1);
        due(c.law(0, 0, 0, 0), 16 + 7 + 8 + 9);
        for (int i = 1; i <= 6; i++) {
            due(c.feed(-1L, 8), 8 * i);
        }
        due(c.feed(0L, 3), FULL);
        due(c.feed(0L, 9), BEYOND);
        due(c.feed(0L, 2), 50);
        due(c.feed(0L, 1), FULL);
        due(c.count(6), 50);
        errorsTold(c, 4, 0, 0, 2, 0);
    }

    private static void texts() {
        SaltClouds c = new SaltClouds();
        c.feed('t', 1);
        due(c.text(2), BEYOND);
        due(c.text(-1), BEYOND);
        due(c.count(6), 1);
        due(c.text(0), 1);
        due(c.count(6), 0);
        due(c.law(0, 123, 0, 0), 123);
        due(textOf(c, 0, "w+"), -12);
        due(c.count(6), 0);
        due(c.law(0, 123, 0, 0), 123);
        due(textOf(c, 0, "w"), 1);
        due(c.law(0, 123, 4, 0), 4);
        due(textOf(c, 1, "w"), -10);
        due(c.law(1, 12, 4, 0), 8);
        due(textOf(c, 1, "a+b+h"), 1);
        due(c.law(1, 12, 4, 1), 17);
        due(c.law(0, 123, 4, 0), 4);
        due(c.text(0), -10);
        due(c.text(1), -10);
        due(c.law(1, 12, 4, 1), 17);
        errorsTold(c, 2, 0, 0, 0, 0);
    }

    private static void faultDue(String text, int use, int fault) {
        SaltClouds c = new SaltClouds();
        due(textOf(c, use, text), fault < 0 ? 1 : -10 - fault);
    }

    private static void faults() {
        faultDue("", 0, 0);
        faultDue("t", 0, -1);
        faultDue("t", 1, 0);
        faultDue("s+a", 0, 2);
        faultDue("h+t", 1, 2);
        faultDue("9999", 0, -1);
        faultDue("0007", 0, -1);
        faultDue("12345", 0, 4);
        faultDue("t t", 0, 1);
        faultDue("tt", 0, 1);
        faultDue("t1", 0, 1);
        faultDue("1t", 0, 1);
        faultDue("1<2<3", 0, 3);
        faultDue("1=2>3", 0, 3);
        faultDue("1<2&3<4|5=6", 0, -1);
        faultDue("(1<2)<3", 0, -1);
        faultDue("1<(2<3)", 0, -1);
        faultDue("1+2<3*4-5", 0, -1);
        faultDue("(1", 0, 2);
        faultDue("(1+", 0, 3);
        faultDue("1)", 0, 1);
        faultDue("()", 0, 1);
        faultDue("(1))", 0, 3);
        faultDue("-1", 0, 0);
        faultDue("1--1", 0, 2);
        faultDue("1!2", 0, 1);
        faultDue("1*!2", 0, -1);
        faultDue("!", 0, 1);
        faultDue("1||2", 0, 2);
        faultDue("1&", 0, 2);
        faultDue("1==2", 0, 2);
        faultDue("1<>2", 0, 2);
        faultDue("T", 0, 0);
        faultDue("!!!!!t", 0, -1);
        faultDue("!!!!!!t", 0, 5);
        faultDue("(((((t)))))", 0, -1);
        faultDue("((((((t))))))", 0, 5);
        faultDue("!(!(!t))", 0, -1);
        faultDue("!(!(!(t)))", 0, 5);
        faultDue("(((((!t)))))", 0, 5);
        faultDue("(((((t)))))+(((((t)))))*!!!!!t", 0, -1);
        faultDue("!!!!!t+!!!!!t+!!!!!t", 0, -1);
        faultDue("(((((t)))))(", 0, 11);
        faultDue("t+t+t+t+t+t+t+t+t+t+t+t+t+t+t+t+t+t+t+t+t+t+t+t+t", 0, -1);
        faultDue("t+t+t+t+t+t+t+t+t+t+t+t+t+t+t+t+t+t+t+t+t+t+t+t+t+", 0, 50);
        faultDue("t+t+t+t+t+t+t+t+t+t+t+t+t+t+t+t+t+t+t+t+t+t+t+t+9t", 0, 49);
        SaltClouds c = new SaltClouds();
        c.feed(0xF4L, 1);
        due(c.text(0), -10);
        c.feed(0x0074L, 2);
        due(c.text(0), -11);
        errorsTold(c, 0, 0, 0, 0, 0);
    }

    private static void laws() {
        due(worked("1+2*3", 0, 0, 0), 7);
        due(worked("(1+2)*3", 0, 0, 0), 9);
        due(worked("10-3-2", 0, 0, 0), 5);
        due(worked("100/7/2", 0, 0, 0), 7);
        due(worked("100%7*5/3", 0, 0, 0), 3);
        due(worked("t/w", -7, 2, 0), -3);
        due(worked("t%w", -7, 2, 0), -1);
        due(worked("t/w", 7, 0, 0), 0);
        due(worked("t%w", 7, 0, 0), 0);
        due(worked("t/w", LEAST, -1, 0), LEAST);
        due(worked("t%w", LEAST, -1, 0), 0);
        due(worked("t+w", MOST, 1, 0), LEAST);
        due(worked("t-w", LEAST, 1, 0), MOST);
        due(worked("t*w", 65536, 65536, 0), 0);
        due(worked("t|w", 0, 0, 0), 0);
        due(worked("t|w", 0, -5, 0), 1);
        due(worked("t&w", 4, 0, 0), 0);
        due(worked("t&w", 4, 8, 0), 1);
        due(worked("1|0&0", 0, 0, 0), 1);
        due(worked("(1|0)&0", 0, 0, 0), 0);
        due(worked("!t", 0, 0, 0), 1);
        due(worked("!t", -9, 0, 0), 0);
        due(worked("!!t", -9, 0, 0), 1);
        due(worked("!t*3", 0, 0, 0), 3);
        due(worked("!(t*3)", 0, 0, 0), 1);
        due(worked("t<w", 1, 2, 0), 1);
        due(worked("t<w", 2, 2, 0), 0);
        due(worked("t=w", 2, 2, 0), 1);
        due(worked("t=w", 2, 1, 0), 0);
        due(worked("t>w", 3, 2, 0), 1);
        due(worked("t>w", 2, 2, 0), 0);
        due(worked("t<w", LEAST, MOST, 0), 1);
        due(worked("1+1<3&2>1", 0, 0, 0), 1);
        due(worked("t|w+5", 0, 0, 0), 1);
        due(worked("7", 0, 0, 0), 7);
        due(worked("s*100+w*10+t", 1, 2, 3), 321);
        due(worked("0010", 0, 0, 0), 10);
        SaltClouds c = new SaltClouds();
        due(c.law(0, -9, 0, 0), 0);
        due(c.law(0, -19, 0, 0), -1);
        due(c.law(0, LEAST, 0, 0), -214748364);
        due(c.law(1, 9, 9, 0), 0);
        due(c.law(1, 8, 9, 0), 0);
        due(c.law(1, 18, 9, 0), 0);
        due(c.law(1, 17, 9, 0), 8);
        due(c.law(1, MOST, -2, 0), 0);
        due(c.law(2, 0, 0, 0), BEYOND);
        due(c.law(-1, 0, 0, 0), BEYOND);
        due(textOf(c, 1, "a*100+b*10+h"), 1);
        due(c.law(1, 0, 9, 9), 99);
        due(c.law(1, 0, 9, 10), 99);
        due(c.law(1, 0, 9, 8), 98);
        due(c.law(1, -1, 0, 0), 0);
        due(textOf(c, 0, "t"), 1);
        due(c.law(0, BEYOND, 0, 0), BEYOND);
        errorsTold(c, 2, 0, 0, 0, 0);
    }

    private static void passingHours() {
        SaltClouds c = new SaltClouds();
        due(c.hours(0), BEYOND);
        due(c.hours(201), BEYOND);
        due(c.hours(-1), BEYOND);
        c.cloud(0, 10, 100);
        c.cloud(11, 10, 100);
        c.cloud(22, 10, 999);
        c.cloud(43, 1, 100);
        salt(c, 0, 99, 99, 99);
        salt(c, 2, 99, 99, 99);
        c.wind(0, 3);
        c.wind(1, -3);
        due(c.hours(1), 2);
        int[] places = {1, 11, 4, 3};
        int[] waters = {101, 100, 999, 100};
        for (int i = 0; i < 4; i++) {
            due(c.ofCloud(i, 2), places[i]);
            due(c.ofCloud(i, 3), waters[i]);
        }
        due(c.hours(1), 2);
        int[] then = {10, 10, 10, 3};
        for (int i = 0; i < 4; i++) {
            due(c.ofCloud(i, 2), then[i]);
        }
        due(c.ofCloud(0, 3), 102);
        due(c.count(1), 2);
        due(c.count(2), 0);
        c.join(0, 2);
        c.hours(6);
        due(c.count(1), 8);
        due(c.ofCloud(2, 2), 10);
        due(c.ofCloud(2, 3), 0);
        for (int i = 0; i < 49; i++) {
            c.hours(200);
        }
        due(c.count(1), 9808);
        due(c.hours(192), STATE);
        due(c.hours(200), STATE);
        due(c.hours(201), BEYOND);
        due(c.hours(190), 3);
        due(c.hours(2), STATE);
        due(c.hours(1), 3);
        due(c.hours(1), STATE);
        due(c.count(1), 9999);
        errorsTold(c, 4, 0, 4, 0, 0);
    }

    private static void rained(int km, int rain, int s0, int s1, int s2) {
        SaltClouds c = new SaltClouds();
        c.hill(0, 3);
        c.cloud(km, 0, 500);
        salt(c, 0, 59, 99, 9);
        c.set(0, 4, 40);
        c.hours(1);
        due(c.ofCloud(0, 3), 500 - rain);
        due(c.count(2), rain);
        due(c.ofCloud(0, 4), s0);
        due(c.ofCloud(0, 5), s1);
        due(c.ofCloud(0, 6), s2);
    }

    private static void rainOverHills() {
        rained(4, 6, 59, 99, 40);
        rained(14, 0, 59, 99, 40);
        rained(24, 10, 59, 99, 36);
        rained(34, 2, 54, 99, 40);
        rained(44, 0, 59, 99, 40);
        rained(54, 20, 59, 90, 36);
        rained(64, 2, 54, 99, 40);
        rained(39, 0, 59, 99, 40);
        SaltClouds c = new SaltClouds();
        c.hill(0, 3);
        c.cloud(20, 0, 4);
        c.set(0, 4, 9);
        c.cloud(20, 0, 0);
        c.set(1, 4, 50);
        c.hours(1);
        due(c.ofCloud(0, 3), 0);
        due(c.ofCloud(0, 6), 9);
        due(c.ofCloud(1, 6), 50);
        due(c.count(2), 4);
        c.hours(5);
        due(c.count(2), 4);
        c.set(1, 1, 1);
        c.hours(1);
        due(c.ofCloud(1, 6), 45);
        due(c.count(2), 5);
    }

    private static void looseHours() {
        SaltClouds c = new SaltClouds();
        due(c.loose(0), BEYOND);
        due(c.loose(201), BEYOND);
        c.cloud(0, 0, 100);
        c.cloud(20, 6, 100);
        for (int h = 0; h < 8; h++) {
            c.wind(h, 1);
        }
        int z = 1;
        int place = 0;
        for (int i = 0; i < 5; i++) {
            z = z * 1103515245 + 12345;
            place += (z >>> 8) % 7 - 3;
        }
        due(c.loose(5), 2);
        due(c.ofCloud(0, 2), Math.floorMod(place, 12));
        due(c.ofCloud(1, 2), Math.floorMod(6 + 2 * place, 12));
        due(c.ofCloud(0, 3), 105);
        due(c.count(9), z);
        due(c.count(1), 5);
        c.set(0, 2, 99);
        due(c.loose(1), 1);
        due(c.count(9), z * 1103515245 + 12345);
        for (int i = 0; i < 49; i++) {
            c.hours(200);
        }
        due(c.loose(194), STATE);
        due(c.loose(201), BEYOND);
        due(c.count(9), z * 1103515245 + 12345);
        due(c.loose(193) >= 0 ? 1 : 0, 1);
        due(c.loose(1), STATE);
        errorsTold(c, 3, 0, 2, 0, 0);
    }

    private static void thens() {
        SaltClouds c = new SaltClouds();
        c.cloud(20, 2, 40);
        salt(c, 0, 10, 20, 30);
        c.wind(0, 2);
        c.wind(1, 1);
        c.hill(6, 1);
        c.hill(8, 2);
        int[] whats = {2, 3, 4, 5, 6, 8};
        int[] now = {2, 40, 10, 20, 30, 150};
        int[] one = {6, 38, 10, 20, 27, 150};
        int[] two = {8, 34, 10, 20, 25, 161};
        for (int i = 0; i < whats.length; i++) {
            due(c.then(0, 0, whats[i]), now[i]);
            due(c.then(1, 0, whats[i]), one[i]);
            due(c.then(2, 0, whats[i]), two[i]);
        }
        due(c.then(200, 0, 3), 0);
        due(c.count(1), 0);
        due(c.count(2), 0);
        due(c.ofCloud(0, 3), 40);
        due(c.then(-1, 0, 2), BEYOND);
        due(c.then(201, 0, 2), BEYOND);
        due(c.then(0, 1, 2), BEYOND);
        due(c.then(0, -1, 2), BEYOND);
        due(c.then(0, 0, 1), BEYOND);
        due(c.then(0, 0, 7), BEYOND);
        due(c.then(0, 0, 9), BEYOND);
        c.hours(1);
        due(c.then(1, 0, 2), 8);
        for (int i = 0; i < 50; i++) {
            c.hours(200);
        }
        c.hours(198);
        due(c.count(1), 9999);
        due(c.then(1, 0, 2), c.ofCloud(0, 2));
        due(c.then(2, 0, 2), (c.ofCloud(0, 2) + 4) % 12);
        due(c.then(3, 0, 2), (c.ofCloud(0, 2) + 6) % 12);
    }

    private static SaltClouds debtors() {
        SaltClouds c = new SaltClouds();
        c.cloud(0, 4, 100);
        c.cloud(0, 4, 3);
        c.cloud(0, 5, 50);
        c.cloud(0, 4, 998);
        return c;
    }

    private static void paying() {
        SaltClouds c = debtors();
        due(c.pay(), 0);
        c.hill(4, 5);
        due(textOf(c, 1, "h"), 1);
        due(c.pay(), 5 + 5 + 5 + 3 + 5 + 5);
        due(c.ofCloud(0, 3), 100);
        due(c.ofCloud(1, 3), 5);
        due(c.ofCloud(2, 3), 50);
        due(c.ofCloud(3, 3), 989);
        c.set(1, 1, 0);
        c.set(3, 1, 0);
        c.set(0, 1, 7);
        due(c.pay(), 5 + 2 + 5 + 0 + 2 + 0);
        due(c.ofCloud(0, 3), 7);
        due(c.ofCloud(1, 3), 0);
        due(c.ofCloud(3, 3), 0);
        SaltClouds d = new SaltClouds();
        d.cloud(0, 0, 10);
        d.cloud(0, 0, 20);
        due(textOf(d, 0, "w"), 1);
        due(d.pay(), 1);
        due(d.ofCloud(0, 3), 11);
        due(d.ofCloud(1, 3), 19);
        due(d.pay(), 8);
        due(d.ofCloud(0, 3), 19);
        due(d.pay(), 8 + 8);
        due(d.ofCloud(0, 3), 19);
        d.join(0, 1);
        due(d.pay(), 0);
        errorsTold(d, 0, 0, 0, 0, 0);
    }

    private static SaltClouds fadings() {
        SaltClouds c = new SaltClouds();
        c.cloud(0, 0, 100);
        salt(c, 0, 11, 0, 0);
        c.cloud(0, 0, 100);
        salt(c, 1, 10, 0, 0);
        c.cloud(1, 0, 100);
        salt(c, 2, 10, 0, 0);
        return c;
    }

    private static void nobodyBys() {
        SaltClouds c = fadings();
        due(c.nobodyBy(0), 11);
        due(c.nobodyBy(1), 1);
        due(c.nobodyBy(2), NONE);
        due(c.nobodyBy(3), BEYOND);
        due(c.nobodyBy(-1), BEYOND);
        due(c.count(1), 0);
        due(c.ofCloud(0, 3), 100);
        salt(c, 0, 30, 0, 0);
        due(c.nobodyBy(0), NONE);
        c.set(0, 1, 101);
        due(c.nobodyBy(0), 200);
        c.join(0, 2);
        due(c.nobodyBy(2), 0);
        c.set(1, 2, 0);
        due(c.nobodyBy(1), 0);
        errorsTold(c, 2, 2, 0, 0, 0);
    }

    private static void firsts() {
        SaltClouds c = fadings();
        due(c.first(), 1);
        c.set(0, 2, 10);
        due(c.first(), 0);
        c.set(1, 2, 9);
        due(c.first(), 1);
        c.join(0, 1);
        c.set(0, 1, 190);
        due(c.first(), 0);
        salt(c, 0, 99, 99, 99);
        due(c.first(), NONE);
        c.set(2, 2, 0);
        due(c.first(), 2);
        due(new SaltClouds().first(), NONE);
        due(c.count(1), 0);
        due(c.told(2), 1);
        firstAtLast();
    }

    private static void firstAtLast() {
        SaltClouds c = new SaltClouds();
        for (int i = 0; i < 8; i++) {
            c.cloud(0, 0, 100);
            salt(c, i, 90, 0, 0);
        }
        due(c.first(), NONE);
        salt(c, 7, 30, 0, 0);
        due(c.first(), NONE);
        c.set(7, 1, 101);
        due(c.nobodyBy(7), 200);
        due(c.first(), 7);
        c.set(6, 1, 99);
        salt(c, 6, 10, 0, 0);
        c.set(5, 1, 98);
        salt(c, 5, 10, 0, 0);
        due(c.nobodyBy(6), 2);
        due(c.nobodyBy(5), 3);
        due(c.first(), 6);
    }

    private static void coming() {
        SaltClouds c = new SaltClouds();
        due(c.comes(9999, 0), NONE);
        c.cloud(0, 0, 10);
        c.cloud(0, 1, 30);
        c.cloud(0, 2, 20);
        c.cloud(0, 3, 0);
        c.cloud(0, 4, 20);
        salt(c, 0, 1, 0, 0);
        salt(c, 1, 0, 9, 0);
        salt(c, 2, 0, 0, 4);
        due(c.comes(10, 0), 1);
        due(c.comes(10, 1), 1);
        due(c.comes(30, 0), 2);
        due(c.comes(20, 0), 4);
        due(c.comes(25, 0), 3);
        due(c.comes(25, 1), 2);
        due(c.comes(9999, 0), 8);
        due(c.comes(0, 0), 16);
        due(c.comes(26, 0), 6);
        due(c.comes(23, 0), 7);
        due(c.comes(23, 1), 3);
        due(c.comes(17, 0), 23);
        due(c.comes(17, 1), 4);
        due(c.comes(31, 0), NONE);
        due(c.comes(-1, 0), BEYOND);
        due(c.comes(10000, 0), BEYOND);
        due(c.comes(10, 2), BEYOND);
        due(c.comes(10, -1), BEYOND);
        c.set(4, 0, 3);
        c.join(3, 4);
        due(c.comes(0, 0), 8);
        due(c.comes(9999, 1), NONE);
        errorsTold(c, 4, 3, 0, 0, 0);
        SaltClouds d = new SaltClouds();
        d.cloud(0, 0, 999);
        d.cloud(0, 0, 999);
        salt(d, 0, 99, 0, 0);
        salt(d, 1, 99, 99, 99);
        due(d.comes(29, 0), 2);
        due(d.comes(19, 0), 3);
        due(d.comes(39, 0), NONE);
        due(d.comes(14, 0), NONE);
        d.cloud(0, 5, 999);
        d.cloud(0, 6, 999);
        salt(d, 2, 99, 0, 0);
        salt(d, 3, 99, 99, 99);
        due(d.comes(19, 0), 3);
        due(d.comes(19, 1), 2);
        due(d.comes(22, 0), NONE);
        due(d.comes(23, 0), 11);
    }

    private static void staying() {
        SaltClouds c = new SaltClouds();
        for (int what = 0; what < 4; what++) {
            due(c.stays(what), 0);
        }
        c.cloud(0, 0, 999);
        c.cloud(0, 3, 999);
        c.cloud(0, 3, 5);
        salt(c, 0, 99, 1, 2);
        salt(c, 1, 99, 3, 4);
        salt(c, 2, 5, 6, 7);
        int[] due = {2003, 203, 10, 13};
        for (int what = 0; what < 4; what++) {
            due(c.stays(what), due[what]);
        }
        c.join(2, 1);
        due(c.stays(0), 1998);
        due(c.stays(1), 198);
        due(c.stays(-1), BEYOND);
        due(c.stays(4), BEYOND);
        due(c.told(1), 2);
    }

    private static void meeting() {
        SaltClouds c = new SaltClouds();
        c.cloud(0, 0, 0);
        c.cloud(20, 3, 0);
        c.cloud(60, 3, 0);
        c.cloud(60, 5, 0);
        due(c.meets(0, 1), NONE);
        due(c.meets(1, 2), 0);
        due(c.meets(0, 0), BEYOND);
        due(c.meets(0, 4), BEYOND);
        due(c.meets(-1, 0), BEYOND);
        c.wind(7, -3);
        due(c.meets(0, 1), 8);
        due(c.meets(2, 3), NONE);
        c.wind(0, -3);
        due(c.meets(0, 1), 1);
        c.wind(0, 1);
        c.wind(7, 0);
        due(c.meets(0, 2), 17);
        due(c.count(1), 0);
        due(c.ofCloud(0, 2), 0);
        c.join(1, 2);
        due(c.meets(1, 2), STATE);
        due(c.meets(2, 1), STATE);
        due(c.meets(2, 2), BEYOND);
        errorsTold(c, 4, 2, 2, 0, 0);
        SaltClouds d = new SaltClouds();
        d.cloud(60, 0, 0);
        d.cloud(0, 0, 0);
        d.wind(0, 1);
        d.hours(1);
        due(d.meets(0, 1), 88);
        d.hours(24);
        d.become(1, 41);
        d.wind(0, -1);
        d.set(1, 0, 1);
        due(d.meets(1, 0), 11);
    }

    private static void storms() {
        SaltClouds c = new SaltClouds();
        c.cloud(0, 0, 10);
        c.cloud(0, 1, 20);
        c.cloud(0, 2, 30);
        c.cloud(0, 3, 0);
        salt(c, 0, 1, 2, 3);
        salt(c, 1, 1, 1, 1);
        salt(c, 2, 2, 3, 4);
        lay(c, 0, 8, 30, 2, 3, 4);
        due(c.storm(0, 0), 3);
        due(c.storm(0, 1), 4);
        lay(c, 0, 16, 10, 1, 2, 3);
        due(c.storm(0, 0), 1);
        due(c.storm(0, 1), 2);
        lay(c, 0, 32, 0, 0, 0, 0);
        due(c.storm(0, 0), 8);
        due(c.storm(0, 1), 1);
        lay(c, 1, 32, 60, 4, 6, 9);
        due(c.storm(1, 0), NONE);
        c.put(1, 3, 8);
        due(c.storm(1, 0), 7);
        c.put(1, 1, 5);
        due(c.storm(1, 1), NONE);
        c.put(1, 1, 4);
        c.put(1, 2, 7);
        due(c.storm(1, 1), NONE);
        c.put(1, 2, 6);
        c.put(1, 0, 61);
        due(c.storm(1, 1), NONE);
        lay(c, 1, 32, 60, 4, 6);
        due(c.storm(1, 0), NONE);
        lay(c, 1, 32, 60, 4, 6, 8, 0);
        due(c.storm(1, 0), NONE);
        due(c.storm(2, 0), NONE);
        due(c.storm(4, 0), BEYOND);
        due(c.storm(-1, 0), BEYOND);
        due(c.storm(0, 2), BEYOND);
        due(c.storm(0, -1), BEYOND);
        due(c.storm(2, 2), BEYOND);
        c.set(3, 0, 2);
        c.join(2, 3);
        due(c.storm(0, 0), NONE);
        errorsTold(c, 5, 8, 0, 0, 0);
        wholeStorm();
    }

    private static void wholeStorm() {
        SaltClouds c = new SaltClouds();
        for (int i = 0; i < 8; i++) {
            c.cloud(0, i, 999);
            salt(c, i, 99, 99, 99);
        }
        lay(c, 0, 16, 7992, 792, 792, 792);
        due(c.storm(0, 0), 255);
        due(c.storm(0, 1), 1);
        lay(c, 0, 32, 3996, 396, 396, 396);
        due(c.storm(0, 0), 15);
        due(c.storm(0, 1), 70);
        due(c.stays(0), 7992);
        due(c.paid(), 0);
        due(c.comes(29, 1), 1);
        due(c.comes(30, 0), NONE);
    }

    private static void paidOnly() {
        SaltClouds c = debtors();
        c.hill(4, 5);
        due(textOf(c, 1, "h"), 1);
        due(c.paid(), 28);
        due(c.paid(), 28);
        due(c.ofCloud(0, 3), 100);
        due(c.ofCloud(1, 3), 3);
        due(c.ofCloud(3, 3), 998);
        due(new SaltClouds().paid(), 0);
    }

    private static void suns() {
        SaltClouds c = new SaltClouds();
        c.cloud(0, 0, 0);
        salt(c, 0, 50, 60, 70);
        due(c.sun(0, 71, 0), 0);
        due(c.sun(0, 71, 1), 0);
        due(c.sun(0, 61, 0), 0);
        due(c.sun(0, 50, 0), 0);
        due(c.sun(0, 50, 1), 1);
        due(c.sun(0, 40, 0), 0);
        due(c.sun(0, 40, 1), 11);
        due(c.sun(0, 39, 0), 1);
        due(c.sun(0, 39, 1), 11);
        due(c.sun(0, 38, 0), 2);
        due(c.sun(0, 38, 1), 11);
        due(c.sun(0, 1, 0), 2);
        due(c.sun(0, 1, 1), 24);
        salt(c, 0, 99, 99, 99);
        due(c.sun(0, 99, 0), 0);
        due(c.sun(0, 99, 1), 1);
        due(c.sun(0, 98, 0), 1);
        due(c.sun(0, 97, 0), 2);
        due(c.sun(0, 97, 1), 1);
        due(c.sun(0, 0, 0), BEYOND);
        due(c.sun(0, 100, 0), BEYOND);
        due(c.sun(0, -1, 0), BEYOND);
        due(c.sun(1, 5, 0), BEYOND);
        due(c.sun(-1, 5, 0), BEYOND);
        due(c.sun(0, 5, 2), BEYOND);
        due(c.sun(0, 5, -1), BEYOND);
        due(c.ofCloud(0, 4), 99);
        c.cloud(0, 0, 0);
        c.join(1, 0);
        due(c.sun(0, 1, 0), 0);
        due(c.sun(0, 1, 1), 0);
        due(c.told(1), 7);
    }

    private static void windsDue(int km, int[] places, int... winds) {
        SaltClouds c = new SaltClouds();
        c.cloud(km, 4, 0);
        lay(c, 1, 8, places);
        for (int i = 0; i < winds.length; i++) {
            due(c.winds(0, 1, i), winds[i]);
        }
        if (winds.length < 8) {
            due(c.winds(0, 1, winds.length), NONE);
        }
    }

    private static void windsFound() {
        windsDue(0, new int[] {6, 5, 8, 8, 11, 2, 11, 0}, 2, -1, 3, 0, 3, 3, -3, 1);
        windsDue(0, new int[] {6, 5, 8, 8, 11, 2, 11, 0, 6, 99}, 2, -1, 3, 0, 3, 3, -3, 1);
        windsDue(0, new int[] {8});
        windsDue(0, new int[] {7, 11});
        windsDue(0, new int[] {16});
        windsDue(0, new int[] {-8});
        windsDue(0, new int[] {});
        windsDue(10, new int[] {4, 5, 4, 3}, -1, 2, -3, -3);
        windsDue(20, new int[] {10, 4, 4, 6}, -3, -3, 0, 1);
        windsDue(20, new int[] {5});
        windsDue(30, new int[] {1, 4}, -3, 3);
        windsDue(41, new int[] {4, 5, 7, 7}, -3, -1, 2, -3);
        windsDue(42, new int[] {3, 3}, -3, -1);
        windsDue(50, new int[] {8, 2}, 2, -3);
        windsDue(60, new int[] {4, 4}, -3, -3);
        windsDue(60, new int[] {4, 5});
        SaltClouds c = new SaltClouds();
        c.cloud(0, 4, 0);
        c.cloud(0, 4, 0);
        lay(c, 0, 32, 5);
        due(c.winds(2, 0, 0), BEYOND);
        due(c.winds(-1, 0, 0), BEYOND);
        due(c.winds(0, 4, 0), BEYOND);
        due(c.winds(0, -1, 0), BEYOND);
        due(c.winds(0, 0, 8), BEYOND);
        due(c.winds(0, 0, -1), BEYOND);
        due(c.winds(0, 1, 0), NONE);
        due(c.winds(0, 0, 0), 1);
        due(c.winds(0, 0, 1), NONE);
        c.join(0, 1);
        due(c.winds(1, 1, 0), STATE);
        due(c.winds(1, 0, 8), BEYOND);
        due(c.ofCloud(0, 2), 4);
        errorsTold(c, 7, 2, 1, 0, 0);
    }

    private static void seeds() {
        SaltClouds c = new SaltClouds();
        due(c.seed(MOST), 1);
        due(c.seed(BEYOND), MOST);
        due(c.seed(0), BEYOND);
        due(c.count(9), 0);
        c.loose(1);
        due(c.seed(1), 12345);
        due(c.told(1), 0);
    }

    private static void voiceDue(int km, int act, int x, int due, int... trace) {
        SaltClouds c = new SaltClouds();
        for (int i = 0; i < 3; i++) {
            c.cloud(km, 0, 0);
        }
        c.voice(0, 3, 7);
        due(c.voice(2, act, x), due);
        due(c.count(8), trace.length);
        for (int i = 0; i < trace.length; i++) {
            due(c.trace(i), trace[i]);
        }
        due(c.trace(trace.length), NONE);
    }

    /** All are spoken by CLOUD 2 (n is 2), with m 5. */
    private static void voices() {
        voiceDue(5, 0, 10, 12, 10);
        voiceDue(5, 1, 10, 24, 11, 10);
        voiceDue(5, 2, 10, 5, 12);
        voiceDue(5, 3, 10, 24 ^ 5, 13, 11, 10, 12);
        voiceDue(15, 0, 10, 36, 20, 10);
        voiceDue(15, 1, 10, 72, 11, 20, 10);
        voiceDue(15, 2, 10, 5, 12);
        voiceDue(15, 3, 10, 72 ^ 5, 13, 11, 20, 10, 12);
        voiceDue(25, 0, 10, 12, 10);
        voiceDue(25, 1, 10, 24 + 4, 30, 11, 10, 12);
        voiceDue(25, 3, 10, 28 ^ 5, 13, 30, 11, 10, 12, 12);
        voiceDue(35, 1, 10, 24, 11, 10);
        voiceDue(35, 2, 10, -5, 40, 12);
        voiceDue(35, 3, 10, 24 ^ -5, 13, 11, 10, 40, 12);
        voiceDue(45, 0, 10, 36, 20, 10);
        voiceDue(45, 3, 10, (72 ^ 5) - 12, 50, 13, 11, 20, 10, 12, 20, 10);
        voiceDue(55, 1, 10, 26 + 4, 60, 30, 11, 10, 12);
        voiceDue(55, 3, 10, 30 ^ 5, 13, 60, 30, 11, 10, 12, 12);
        voiceDue(65, 2, 10, -5 ^ 2, 70, 40, 12);
        voiceDue(65, 3, 10, 24 - (24 ^ -5 ^ 2), 71, 11, 10, 13, 11, 10, 70, 40, 12);
        voiceDue(5, 0, MOST, LEAST + 1, 10);
        voiceDue(5, 2, LEAST, MOST - 4, 12);
        voiceDue(5, 2, LOW + 4, BEYOND, 12);
        SaltClouds c = new SaltClouds();
        c.cloud(0, 0, 0);
        c.cloud(0, 0, 0);
        c.join(0, 1);
        due(c.voice(1, 0, BEYOND - 1), BEYOND);
        due(c.told(1), 0);
        due(c.voice(2, 0, 0), BEYOND);
        due(c.voice(-1, 0, 0), BEYOND);
        due(c.voice(0, 4, 0), BEYOND);
        due(c.voice(0, -1, 0), BEYOND);
        due(c.trace(0), 10);
        due(c.told(1), 4);
    }

    private static void traces() {
        SaltClouds c = new SaltClouds();
        c.cloud(60, 0, 0);
        due(c.trace(0), NONE);
        c.voice(0, 3, 0);
        due(c.trace(8), 12);
        due(c.trace(9), NONE);
        due(c.trace(40), NONE);
        due(c.trace(-1), NONE);
        due(c.trace(LEAST), NONE);
        due(c.trace(MOST), NONE);
        c.voice(0, 0, 0);
        due(c.trace(0), 10);
        due(c.trace(1), NONE);
        due(c.told(2), 7);
        due(c.told(1), 0);
    }

    private static void layingSheets() {
        SaltClouds c = new SaltClouds();
        int[] widths = {8, 16, 32};
        for (int bits : widths) {
            due(c.sheet(3, bits, 40), 1);
            due(c.put(3, 39, 1), 1);
            due(c.put(3, 40, 1), BEYOND);
            due(c.sheet(3, bits, 0), 1);
            due(c.put(3, 0, 1), BEYOND);
        }
        due(c.sheet(0, 8, 41), BEYOND);
        due(c.sheet(0, 8, MOST), BEYOND);
        due(c.sheet(0, 8, -1), STATE);
        due(c.sheet(0, 8, LEAST), STATE);
        due(c.sheet(4, 8, -1), BEYOND);
        due(c.sheet(-1, 8, -1), BEYOND);
        due(c.sheet(0, 7, -1), BEYOND);
        due(c.sheet(0, 64, 1), BEYOND);
        due(c.sheet(0, -8, 1), BEYOND);
        due(c.sheet(4, 0, 1), BEYOND);
        due(c.put(0, 0, 0), NONE);
        due(c.sheet(3, 0, -5), 1);
        due(c.put(3, 0, 1), NONE);
        due(c.sheet(3, 0, 99), 1);
        lay(c, 2, 32, 5, 6, 7);
        due(c.sheet(2, 16, 2), 1);
        due(c.hills(2), 2);
        due(c.hill(0, 1), 0);
        due(c.hill(1, 1), 0);
        lay(c, 2, 32, 5, 6, 7);
        due(c.sheet(2, 8, -1), STATE);
        due(c.sheet(2, 8, 41), BEYOND);
        due(c.hills(2), 3);
        due(c.hill(2, 1), 7);
        errorsTold(c, 15, 2, 3, 0, 0);
    }

    private static void putting() {
        SaltClouds c = new SaltClouds();
        due(c.put(4, 0, 0), BEYOND);
        due(c.put(-1, 0, 0), BEYOND);
        due(c.put(0, -1, 0), NONE);
        c.sheet(0, 8, 2);
        due(c.put(0, 2, 0), BEYOND);
        due(c.put(0, -1, 0), BEYOND);
        c.cloud(0, 0, 44);
        c.cloud(0, 0, 127);
        due(c.put(0, 0, 300), 1);
        due(c.put(0, 1, LEAST + 127), 1);
        due(c.judge(0), -1);
        c.sheet(0, 16, 2);
        due(c.put(0, 0, 65536 + 44), 1);
        due(c.put(0, 1, -65536 + 127), 1);
        due(c.judge(0), -1);
        due(c.put(0, 0, 300), 1);
        due(c.judge(0), 0);
        c.set(0, 1, 300);
        due(c.judge(0), -1);
        c.sheet(0, 32, 2);
        due(c.put(0, 0, 65536 + 300), 1);
        due(c.put(0, 1, 127), 1);
        due(c.judge(0), 0);
        due(c.put(0, 0, 300), 1);
        due(c.judge(0), -1);
        errorsTold(c, 4, 1, 0, 0, 0);
    }

    private static void watersDue(SaltClouds c, int sheet, int... waters) {
        for (int i = 0; i < waters.length; i++) {
            c.set(i, 1, waters[i]);
        }
        due(c.judge(sheet), -1);
    }

    private static void moving() {
        SaltClouds c = new SaltClouds();
        for (int i = 0; i < 5; i++) {
            c.cloud(0, 0, 0);
        }
        lay(c, 0, 8, 1, 2, 3, 4, 5);
        due(c.move(0, 0, 0, 1, 3), 3);
        watersDue(c, 0, 1, 1, 2, 3, 5);
        lay(c, 0, 8, 1, 2, 3, 4, 5);
        due(c.move(0, 2, 0, 0, 3), 3);
        watersDue(c, 0, 3, 4, 5, 4, 5);
        lay(c, 1, 8, 6, 7);
        due(c.move(1, 0, 0, 3, 2), 2);
        watersDue(c, 0, 3, 4, 5, 6, 7);
        due(c.move(0, 5, 1, 2, 0), 0);
        due(c.move(0, 0, 1, 0, 3), BEYOND);
        due(c.move(0, 4, 1, 0, 2), BEYOND);
        due(c.move(0, 0, 1, 1, 2), BEYOND);
        due(c.move(0, -1, 1, 0, 1), BEYOND);
        due(c.move(0, 0, 1, -1, 1), BEYOND);
        due(c.move(0, 0, 1, 0, -1), BEYOND);
        due(c.move(0, MOST, 1, 0, MOST), BEYOND);
        due(c.move(0, 1, 1, 1, MOST), BEYOND);
        due(c.move(0, LEAST, 1, LEAST, LEAST), BEYOND);
        due(c.move(0, 6, 1, 0, 0), BEYOND);
        watersDue(c, 0, 3, 4, 5, 6, 7);
        lay(c, 2, 16, 6, 7);
        due(c.move(0, 0, 2, 0, 1), KIND);
        due(c.move(0, -1, 2, 0, 99), KIND);
        due(c.move(0, 0, 3, 0, 1), NONE);
        due(c.move(3, 0, 0, 0, -1), NONE);
        due(c.move(4, 0, 3, 0, 1), BEYOND);
        due(c.move(3, 0, 4, 0, 1), BEYOND);
        due(c.move(-1, 0, 0, 0, 1), BEYOND);
        errorsTold(c, 13, 2, 0, 0, 2);
    }

    private static void hillsFromSheets() {
        SaltClouds c = new SaltClouds();
        lay(c, 0, 8, 1, 0, 9, 10, 5);
        c.hill(3, 4);
        c.hill(4, 4);
        due(c.hills(0), 3);
        int[] heights = {1, 0, 9, 4, 4};
        for (int i = 0; i < heights.length; i++) {
            due(c.hill(i, 0), heights[i]);
        }
        c.put(0, 0, -1);
        due(c.hills(0), 0);
        c.sheet(1, 16, 40);
        for (int i = 0; i < 40; i++) {
            c.put(1, i, 7);
        }
        due(c.hills(1), 12);
        due(c.hill(11, 0), 7);
        due(c.hills(2), NONE);
        due(c.hills(4), BEYOND);
        due(c.hills(-1), BEYOND);
        c.sheet(2, 32, 0);
        due(c.hills(2), 0);
        errorsTold(c, 2, 1, 0, 0, 0);
    }

    private static void judging() {
        SaltClouds c = new SaltClouds();
        due(c.judge(0), NONE);
        due(c.judge(4), BEYOND);
        due(c.judge(-1), BEYOND);
        c.sheet(0, 8, 0);
        due(c.judge(0), -1);
        c.cloud(0, 0, 5);
        c.cloud(0, 0, 6);
        c.cloud(0, 0, 7);
        due(c.judge(0), 0);
        lay(c, 0, 8, 5, 6);
        due(c.judge(0), 2);
        lay(c, 0, 8, 5, 6, 7);
        due(c.judge(0), -1);
        lay(c, 0, 8, 5, 6, 7, 0);
        due(c.judge(0), 3);
        lay(c, 0, 8, 5, 9, 7, 0);
        due(c.judge(0), 1);
        c.join(0, 2);
        lay(c, 0, 8, 12, 6, 0);
        due(c.judge(0), -1);
        errorsTold(c, 2, 1, 0, 0, 0);
    }

    private static void imaging() {
        SaltClouds c = new SaltClouds();
        due(c.image(), 1);
        due(c.image(), 2);
        c.cloud(0, 0, 5);
        due(c.image(), 3);
        c.restore();
        due(c.count(0), 1);
        due(c.image(), 4);
        due(c.ofCloud(0, 3), 5);
    }

    private static void restoring() {
        SaltClouds c = new SaltClouds();
        due(c.restore(), NONE);
        c.cloud(23, 4, 50);
        salt(c, 0, 7, 8, 9);
        c.hill(4, 2);
        c.wind(1, 2);
        textOf(c, 0, "w");
        textOf(c, 1, "7");
        c.feed('t', 1);
        c.tell(3);
        c.seed(77);
        c.hours(1);
        c.image();
        c.hours(1);
        textOf(c, 0, "s");
        c.check();
        c.tell(4);
        c.set(0, 1, 1);
        salt(c, 0, 1, 1, 1);
        c.become(0, 69);
        c.cloud(0, 4, 0);
        c.join(1, 0);
        c.hill(4, 5);
        c.wind(1, 3);
        textOf(c, 1, "8");
        feedAll(c, "+1");
        c.tell(5);
        c.loose(3);
        c.voice(0, 1, 0);
        lay(c, 0, 8, 43);
        due(c.restore(), 1);
        int[] facts = {2, 3, 4, 43, 7, 8, 9, 1, 55, 43, 4, 7};
        for (int what = 0; what < facts.length; what++) {
            due(c.ofCloud(0, what), facts[what]);
        }
        int[] counts = {1, 1, 7, 1, 0, 43, 1, 1, 2, 77};
        for (int what = 0; what < counts.length; what++) {
            due(c.count(what), counts[what]);
        }
        due(c.law(1, 0, 0, 0), 7);
        due(c.law(0, 5, 6, 7), 6);
        due(c.judge(0), -1);
        due(c.text(0), 1);
        due(c.law(0, 5, 6, 7), 5);
        due(c.check(), 1);
        due(c.told(2), 1);
        c.hill(4, 9);
        c.hours(1);
        due(c.restore(), 1);
        due(c.tell(1), 2);
        c.restore();
        due(c.hill(4, 0), 2);
        due(c.wind(1, 0), 2);
        due(c.image(), 2);
        keptWaits();
    }

    private static void keptWaits() {
        SaltClouds c = new SaltClouds();
        c.cloud(0, 0, 5);
        c.tell(6);
        c.tell(7);
        c.image();
        c.check();
        c.tell(1);
        c.restore();
        due(c.count(7), 2);
        due(c.check(), 0);
        c.restore();
        c.tell(9);
        due(c.check(), 3);
    }

    private static void telling() {
        SaltClouds c = new SaltClouds();
        for (int i = 1; i <= 20; i++) {
            due(c.tell(i % 2 == 0 ? LEAST : MOST), i);
        }
        due(c.tell(0), FULL);
        due(c.count(7), 20);
        due(c.check(), 1);
        due(c.tell(0), 1);
        errorsTold(c, 0, 0, 0, 1, 0);
    }

    private static void checking() {
        SaltClouds c = new SaltClouds();
        due(c.check(), 0);
        c.cloud(0, 0, 10);
        c.cloud(21, 0, 9);
        c.cloud(1, 5, 100);
        c.wind(1, 1);
        c.hill(1, 2);
        c.tell(120);
        c.tell(116);
        c.tell(112);
        due(c.check(), 0);
        due(c.count(7), 0);
        due(c.check(), 0);
        c.tell(120);
        c.tell(118);
        c.tell(0);
        due(c.check(), 2);
        due(c.count(7), 0);
        c.tell(119);
        due(c.check(), 1);
        due(c.count(1), 0);
        due(c.count(2), 0);
        due(c.ofCloud(0, 3), 10);
        c.join(0, 1);
        c.tell(120);
        due(c.check(), 0);
        for (int i = 0; i < 20; i++) {
            c.tell(i < 19 ? c.then(i + 1, 0, 3) + 100 : -1);
        }
        due(c.check(), 20);
    }

    private static void counting() {
        SaltClouds c = new SaltClouds();
        c.cloud(0, 0, 10);
        c.cloud(20, 0, 20);
        c.cloud(0, 3, 30);
        c.cloud(0, 3, 40);
        salt(c, 0, 90, 0, 0);
        salt(c, 2, 90, 0, 0);
        c.hill(0, 4);
        c.join(2, 3);
        c.feed(0, 5);
        c.tell(1);
        c.tell(1);
        c.voice(1, 1, 0);
        c.seed(BEYOND);
        c.hours(2);
        int[] due = {4, 2, 26, 3, 2, 76, 5, 2, 4, BEYOND};
        for (int what = 0; what < due.length; what++) {
            due(c.count(what), due[what]);
        }
        due(c.told(1), 0);
        due(c.count(-1), BEYOND);
        due(c.count(10), BEYOND);
        due(c.count(MOST), BEYOND);
        due(c.told(1), 3);
    }

    private static void beingTold() {
        SaltClouds c = new SaltClouds();
        due(c.told(0), BEYOND);
        due(c.told(6), BEYOND);
        due(c.told(LEAST), BEYOND);
        due(c.told(1), 3);
        c.restore();
        c.trace(0);
        c.sheet(0, 8, -1);
        for (int i = 0; i < 25; i++) {
            c.tell(0);
        }
        c.cloud(0, 0, 0);
        c.as(0, 6);
        c.image();
        c.restore();
        errorsTold(c, 3, 2, 1, 5, 1);
        errorsTold(c, 3, 2, 1, 5, 1);
    }
}
