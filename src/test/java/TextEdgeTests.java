import java.io.IOException;

/** Each sentence of promises 11 to 13, texts, at its edges. */
public final class TextEdgeTests {
    private static final String FIFTY = "t+t+t+t+t+t+t+t+t+t+t+t+t+t+t+t+t+t+t+t+t+t+t+t+10";

    private TextEdgeTests() {
    }

    public static void main(String[] args) throws IOException {
        Edges.open(args);
        feed();
        text();
        law();
        Edges.end("TextEdgeTests", 11, 13);
    }

    private static SaltClouds fed(int bytes) {
        SaltClouds c = Edges.sky();
        c.text(0);
        Edges.feed(c, "1".repeat(bytes));
        return c;
    }

    private static void feed() {
        Edges.promise(11);
        Edges.says("The n lowest bytes (1 .. 8) of a word, the lowest first, come to THE TAPE: how many there are.");
        long word = 0x2A342B332B322B31L;
        int[] sums = {1, 0, 3, 0, 6, 0, 10, 0};
        for (int n = 1; n <= 8; n++) {
            SaltClouds some = new SaltClouds();
            Edges.due(some.feed(word, n), n);
            Edges.due(some.count(6), n);
            Edges.due(some.text(0), n % 2 == 1 ? 1 : -10 - n);
            Edges.due(some.law(0, 0, 0, 0), sums[n - 1]);
        }
        SaltClouds c = new SaltClouds();
        Edges.due(c.feed(0x392B382B372B3631L, 8), 8);
        Edges.due(c.feed(0xFFFFFFFFFFFF372BL, 2), 10);
        Edges.due(c.text(0), 1);
        Edges.due(c.law(0, 0, 0, 0), 16 + 7 + 8 + 9 + 7);
        c.feed(0xFFL, 1);
        Edges.due(c.text(0), -10);
        c.feed(0x8000000000000074L, 8);
        Edges.due(c.text(0), -11);

        Edges.says("BEYOND.");
        for (int n : new int[] {0, 9, -1, Edges.LEAST, Edges.MOST}) {
            Edges.refused(Edges.BEYOND, d -> d.feed(0x31L, n));
            Edges.refused(() -> fed(50), Edges.BEYOND, d -> d.feed(0x31L, n));
        }

        Edges.says("FULL.");
        Edges.due(fed(42).feed(0L, 8), 50);
        Edges.refused(() -> fed(43), Edges.FULL, d -> d.feed(0x3131313131313131L, 8));
        Edges.due(fed(49).feed(0L, 1), 50);
        Edges.refused(() -> fed(49), Edges.FULL, d -> d.feed(0x3131L, 2));
        Edges.refused(() -> fed(50), Edges.FULL, d -> d.feed(0x31L, 1));
        SaltClouds again = fed(50);
        again.text(0);
        Edges.due(again.feed(0x31L, 1), 1);
    }

    private static void text() {
        Edges.promise(12);
        Edges.says("THE TAPE, which is empty then, is the TEXT of a USE (0, 1), in place of one ahead: 1.");
        SaltClouds c = new SaltClouds();
        Edges.due(Edges.text(c, 0, FIFTY), 1);
        Edges.due(c.count(6), 0);
        Edges.due(c.law(0, 2, 0, 0), 58);
        Edges.due(Edges.text(c, 1, "h"), 1);
        Edges.due(c.law(0, 2, 0, 0), 58);
        Edges.due(c.law(1, 9, 2, 5), 5);
        Edges.due(Edges.text(c, 0, "w"), 1);
        Edges.due(c.law(0, 2, 3, 4), 3);
        Edges.due(Edges.text(c, 1, "a"), 1);
        Edges.due(c.law(1, 9, 2, 5), 9);
        Edges.due(c.law(0, 2, 3, 4), 3);

        Edges.says("BEYOND (THE TAPE stays).");
        for (int use : new int[] {-1, 2, Edges.LEAST, Edges.MOST}) {
            Edges.refused(Edges.BEYOND, d -> d.text(use));
            SaltClouds stays = new SaltClouds();
            Edges.feed(stays, "w+3");
            stays.text(use);
            Edges.due(stays.count(6), 3);
            Edges.due(stays.text(0), 1);
            Edges.due(stays.law(0, 1, 4, 1), 7);
        }

        Edges.says("-10 less the FAULT (no ERROR; the one ahead stays; THE TAPE is empty, too).");
        SaltClouds faulty = new SaltClouds();
        Edges.due(faulty.text(0), -10);
        Edges.due(faulty.text(1), -10);
        Edges.due(faulty.law(0, 95, 0, 0), 9);
        Edges.due(faulty.law(1, 8, 3, 0), 5);
        Edges.text(faulty, 0, "s");
        Edges.text(faulty, 1, "b");
        Edges.due(Edges.text(faulty, 0, FIFTY.substring(0, 49) + "+"), -60);
        Edges.due(faulty.count(6), 0);
        Edges.due(Edges.text(faulty, 1, "a*"), -12);
        Edges.due(faulty.count(6), 0);
        Edges.due(faulty.text(0), -10);
        Edges.due(faulty.law(0, 1, 2, 3), 3);
        Edges.due(faulty.law(1, 1, 2, 3), 2);
        for (int k = 1; k <= 5; k++) {
            Edges.due(faulty.told(k), 0);
        }
    }

    private static void law() {
        Edges.promise(13);
        Edges.says("What a USE gives with its NAMES in order as a, b, c (NAME: any number).");
        SaltClouds c = new SaltClouds();
        Edges.due(c.law(0, Edges.MOST, 1, 2), 214748364);
        Edges.due(c.law(0, Edges.LEAST, 1, 2), -214748364);
        Edges.text(c, 0, "t*100+w*10+s");
        Edges.due(c.law(0, 1, 2, 3), 123);
        Edges.due(c.law(0, -1, -2, -3), -123);
        Edges.text(c, 1, "a*25+b*5+h");
        Edges.due(c.law(1, 1, 2, 3), 38);
        Edges.due(c.law(1, 3, 4, 5), 99);
        Edges.due(c.law(1, 3, 4, 4), 99);
        Edges.due(c.law(1, 3, 4, 3), 98);
        Edges.due(c.law(1, 0, 0, -1), 0);
        Edges.due(c.law(1, 0, 0, 0), 0);
        Edges.text(c, 0, "t");
        Edges.due(c.law(0, Edges.BEYOND, 0, 0), Edges.BEYOND);
        Edges.due(c.law(0, Edges.LEAST, 0, 0), Edges.LEAST);
        Edges.due(c.told(1), 0);

        Edges.says("BEYOND.");
        for (int use : new int[] {-1, 2, Edges.LEAST, Edges.MOST}) {
            Edges.refused(Edges.BEYOND, d -> d.law(use, 1, 2, 3));
        }
    }
}
