import java.io.IOException;

/** Each sentence of promises 14 to 17, hours, at its edges. */
public final class HourEdgeTests {
    private HourEdgeTests() {
    }

    public static void main(String[] args) throws IOException {
        Edges.open(args);
        hours();
        loose();
        then();
        pay();
        Edges.end("HourEdgeTests", 14, 17);
    }

    private static SaltClouds atHour(int hour) {
        SaltClouds c = Edges.sky();
        Edges.hours(c, hour - 1);
        return c;
    }

    private static void hours() {
        Edges.promise(14);
        Edges.says("n (1 to 200) HOURS: how many CLOUDS are NOBODY then.");
        SaltClouds c = Edges.clouds(0, 0, 100, 1, 0, 100, 0, 0, 100);
        Edges.salts(c, 0, 30, 0, 0);
        Edges.salts(c, 1, 30, 0, 0);
        c.set(0, 1, 101);
        Edges.due(c.hours(1), 1);
        Edges.due(c.count(1), 1);
        Edges.due(c.hours(198), 1);
        Edges.due(c.ofCloud(0, 8), 10);
        Edges.due(c.hours(1), 2);
        Edges.due(c.ofCloud(0, 8), 9);
        Edges.due(c.hours(200), 2);
        Edges.due(c.count(1), 400);
        Edges.due(c.ofCloud(1, 3), 100);
        c.join(0, 1);
        c.set(0, 2, 99);
        Edges.due(c.hours(1), 2);
        Edges.due(new SaltClouds().hours(200), 0);

        Edges.says("BEYOND.");
        for (int n : new int[] {0, 201, -1, Edges.LEAST, Edges.MOST}) {
            Edges.refused(Edges.BEYOND, d -> d.hours(n));
            Edges.refused(Edges::lastHour, Edges.BEYOND, d -> d.hours(n));
        }

        Edges.says("STATE: HOUR would be above 9999.");
        Edges.due(Edges.lastHour().count(1), 9999);
        Edges.refused(Edges::lastHour, Edges.STATE, d -> d.hours(1));
        Edges.refused(Edges::lastHour, Edges.STATE, d -> d.hours(200));
        Edges.refused(() -> atHour(9998), Edges.STATE, d -> d.hours(2));
        Edges.refused(() -> atHour(9800), Edges.STATE, d -> d.hours(200));
        SaltClouds late = atHour(9799);
        late.hours(200);
        Edges.due(late.count(1), 9999);
        SaltClouds latest = atHour(9998);
        latest.hours(1);
        Edges.due(latest.count(1), 9999);
    }

    private static void loose() {
        Edges.promise(15);
        Edges.says("n (1 to 200) HOURS by draws: likewise.");
        SaltClouds c = Edges.clouds(0, 3, 100, 60, 3, 100);
        Edges.salts(c, 0, 11, 0, 0);
        Edges.salts(c, 1, 40, 0, 0);
        c.wind(0, 3);
        int z = 1;
        int place = 3;
        Edges.due(c.loose(1), 0);
        z = z * 1103515245 + 12345;
        place += (z >>> 8) % 7 - 3;
        Edges.due(c.ofCloud(0, 2), place);
        Edges.due(c.count(9), z);
        Edges.due(c.count(1), 1);
        Edges.due(c.loose(200), 1);
        for (int i = 0; i < 200; i++) {
            z = z * 1103515245 + 12345;
            place += (z >>> 8) % 7 - 3;
        }
        Edges.due(c.ofCloud(0, 2), Math.floorMod(place, 12));
        Edges.due(c.ofCloud(1, 2), 3);
        Edges.due(c.ofCloud(0, 3), 301);
        Edges.due(c.count(9), z);
        Edges.due(c.count(1), 201);
        c.set(1, 0, c.ofCloud(0, 2));
        c.join(1, 0);
        c.set(1, 2, 99);
        Edges.due(c.loose(1), 1);
        Edges.due(new SaltClouds().loose(200), 0);

        Edges.says("BEYOND.");
        for (int n : new int[] {0, 201, -1, Edges.LEAST, Edges.MOST}) {
            Edges.refused(Edges.BEYOND, d -> d.loose(n));
            Edges.refused(Edges::lastHour, Edges.BEYOND, d -> d.loose(n));
        }

        Edges.says("STATE.");
        Edges.refused(Edges::lastHour, Edges.STATE, d -> d.loose(1));
        Edges.refused(Edges::lastHour, Edges.STATE, d -> d.loose(200));
        Edges.refused(() -> atHour(9998), Edges.STATE, d -> d.loose(2));
        Edges.refused(() -> atHour(9800), Edges.STATE, d -> d.loose(200));
        SaltClouds late = atHour(9799);
        late.loose(200);
        Edges.due(late.count(1), 9999);
    }

    private static void then() {
        Edges.promise(16);
        Edges.says("As n (0 to 200) HOURS would go by: of a CLOUD what 2 .. 6, 8 as in ofCloud().");
        int[] whats = {2, 3, 4, 5, 6, 8};
        for (int n : new int[] {0, 1, 2, 7, 8, 9, 199, 200}) {
            SaltClouds thought = Edges.sky();
            SaltClouds gone = Edges.sky();
            Edges.hours(gone, n);
            for (int cloud = 0; cloud < 5; cloud++) {
                for (int what : whats) {
                    Edges.due(thought.then(n, cloud, what), gone.ofCloud(cloud, what));
                }
            }
            Edges.due(thought.count(1), 1);
            Edges.due(thought.count(2), 0);
            Edges.due(thought.ofCloud(0, 3), 101);
        }
        SaltClouds falling = Edges.clouds(29, 0, 100);
        falling.hill(0, 9);
        Edges.salts(falling, 0, 50, 0, 50);
        int[] behindThree = {0, 19, 50, 0, 37, 457};
        int[] behindAll = {0, 0, 50, 0, 34, 9999};
        for (int i = 0; i < whats.length; i++) {
            Edges.due(falling.then(3, 0, whats[i]), behindThree[i]);
            Edges.due(falling.then(200, 0, whats[i]), behindAll[i]);
        }
        SaltClouds last = Edges.lastHour();
        last.wind(0, 3);
        last.wind(7, -1);
        int place = last.ofCloud(0, 2);
        Edges.due(last.then(1, 0, 2), (place + 11) % 12);
        Edges.due(last.then(2, 0, 2), (place + 14) % 12);

        Edges.says("BEYOND.");
        for (int n : new int[] {-1, 201, Edges.LEAST, Edges.MOST}) {
            Edges.refused(Edges.BEYOND, d -> d.then(n, 0, 2));
        }
        for (int cloud : Edges.NO_CLOUDS) {
            Edges.refused(Edges.BEYOND, d -> d.then(0, cloud, 2));
        }
        for (int what : new int[] {-1, 0, 1, 7, 9, 10, 11, 12, Edges.LEAST, Edges.MOST}) {
            Edges.refused(Edges.BEYOND, d -> d.then(1, 0, what));
        }
    }

    private static void pay() {
        Edges.promise(17);
        Edges.says("DEBTS are paid, one round: how much WATER went.");
        Edges.due(new SaltClouds().pay(), 0);
        SaltClouds c = Edges.clouds(0, 4, 10, 0, 4, 4, 0, 5, 50);
        Edges.due(c.pay(), 0);
        Edges.text(c, 1, "7");
        Edges.due(c.pay(), 14);
        Edges.due(c.ofCloud(0, 3), 3 + 7);
        Edges.due(c.ofCloud(1, 3), 4);
        Edges.due(c.ofCloud(2, 3), 50);
        c.set(0, 1, 0);
        Edges.due(c.pay(), 4);
        Edges.due(c.ofCloud(0, 3), 4);
        Edges.due(c.ofCloud(1, 3), 0);
        Edges.text(c, 1, "9999");
        c.set(0, 1, 500);
        c.set(1, 1, 950);
        Edges.due(c.pay(), 99 + 99);
        Edges.due(c.ofCloud(0, 3), 401 + 99);
        Edges.due(c.ofCloud(1, 3), 900);
        Edges.text(c, 1, "0-1");
        Edges.due(c.pay(), 0);
        c.join(0, 1);
        Edges.text(c, 1, "9");
        Edges.due(c.pay(), 0);
        Edges.due(c.ofCloud(0, 3), 999);
        Edges.due(c.count(1), 0);
    }
}
