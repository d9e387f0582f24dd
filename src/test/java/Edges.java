import java.io.IOException;
import java.nio.file.Files;
import java.nio.file.Path;
import java.util.ArrayList;
import java.util.LinkedHashMap;
import java.util.List;
import java.util.Map;
import java.util.function.Supplier;
import java.util.function.ToIntFunction;

/**
 * Ties tests to the sentences of the document: a test says which sentence it tests, and at the end each
 * sentence of the promises that were opened must have had a test.
 */
final class Edges {
    static final int LOW = -1000000000;
    static final int BEYOND = LOW - 1;
    static final int NONE = LOW - 2;
    static final int STATE = LOW - 3;
    static final int FULL = LOW - 4;
    static final int KIND = LOW - 5;
    static final int LEAST = Integer.MIN_VALUE;
    static final int MOST = Integer.MAX_VALUE;
    /** None of these is a CLOUD of sky(). */
    static final int[] NO_CLOUDS = {-1, 5, 8, LEAST, MOST};
    static final int[] NO_SHEETS = {-1, 4, LEAST, MOST};

    private static final int TERMS = 0;
    /** A full stop ends a sentence, but not in "1 .. 8". */
    private static final String SENTENCE_END = "(?<=[^.]\\.\\)?)\\s+(?=[A-Z0-9(/-])";

    private static String document = "";
    private static final Map<Integer, Map<String, Boolean>> OPENED = new LinkedHashMap<>();
    private static int section = -1;
    private static String said = "";
    private static int asked = 1;

    private Edges() {
    }

    // ---- sentences

    static void open(String[] args) throws IOException {
        document = Files.readString(Path.of(args[0]));
    }

    static void terms() {
        int from = document.indexOf("## Terms\n");
        int to = document.indexOf("Ahead of the calls");
        openSection(TERMS, document.substring(from + "## Terms\n".length(), to).replace("```text", "").replace("```", ""));
    }

    static void promise(int number) {
        int from = document.indexOf("`: ", document.indexOf("## Promise " + number + ":"));
        int to = document.indexOf("\n## ", from);
        openSection(number, document.substring(from + 3, to));
    }

    private static void openSection(int number, String text) {
        endSentence();
        section = number;
        Map<String, Boolean> sentences = new LinkedHashMap<>();
        for (String part : text.split("\\n\\s*\\n|\\n(?=   )|(?m)^\\d\\. ")) {
            for (String sentence : joined(part).split(SENTENCE_END)) {
                if (!sentence.isEmpty()) {
                    sentences.put(sentence, false);
                }
            }
        }
        OPENED.put(number, sentences);
    }

    private static String joined(String text) {
        return text.trim().replaceAll("\\s+", " ");
    }

    /** What is due from here on is so by these words of the document. */
    static void says(String words) {
        endSentence();
        said = words;
        asked = 0;
        boolean stands = false;
        for (Map.Entry<String, Boolean> sentence : OPENED.get(section).entrySet()) {
            if (sentence.getKey().contains(words)) {
                sentence.setValue(true);
                stands = true;
            }
        }
        Report.dueThat(stands, "the document does not say " + where());
    }

    private static void endSentence() {
        Report.dueThat(asked > 0, "nothing was asked of " + where());
    }

    private static String where() {
        return (section == TERMS ? "Terms" : "Promise " + section) + ", \"" + said + "\"";
    }

    /** Ends the program; the promises from the first to the last, or the terms (0), must all have been tested. */
    static void end(String name, int first, int last) {
        endSentence();
        for (int number = first; number <= last; number++) {
            Report.dueThat(OPENED.containsKey(number), "no test of promise " + number);
            for (Map.Entry<String, Boolean> sentence : OPENED.getOrDefault(number, Map.of()).entrySet()) {
                Report.dueThat(sentence.getValue(), "no test of promise " + number + ", \"" + sentence.getKey() + "\"");
            }
        }
        Report.end(name);
    }

    // ---- answers

    static void due(long got, long want) {
        asked++;
        if (got == want) {
            Report.pass();
            return;
        }
        Report.fail(where() + ", " + line() + " answered " + got + ", due is " + want);
    }

    private static String line() {
        for (StackTraceElement place : new Throwable().getStackTrace()) {
            if (!place.getClassName().equals("Edges")) {
                return "line " + place.getLineNumber();
            }
        }
        return "no line";
    }

    /** The act answers the ERROR on such an object, and all is then as it was but what told() tells. */
    static void refused(Supplier<SaltClouds> world, int error, ToIntFunction<SaltClouds> act) {
        SaltClouds left = world.get();
        SaltClouds used = world.get();
        due(act.applyAsInt(used), error);
        for (int k = 1; k <= 5; k++) {
            due(used.told(k), left.told(k) + (LOW - k == error ? 1 : 0));
        }
        List<String> want = allOf(left);
        List<String> got = allOf(used);
        for (int i = 0; i < want.size(); i++) {
            if (!want.get(i).equals(got.get(i))) {
                Report.fail(where() + ", " + line() + ": the refused call made " + want.get(i) + " into " + got.get(i));
                return;
            }
        }
    }

    static void refused(int error, ToIntFunction<SaltClouds> act) {
        refused(Edges::sky, error, act);
    }

    /** Whatever can be seen of an object, which is used up by this. */
    private static List<String> allOf(SaltClouds c) {
        List<String> all = new ArrayList<>();
        seeClouds(c, all);
        for (int i = 0; i < c.count(8); i++) {
            all.add("trace " + i + ": " + c.trace(i));
        }
        all.add("check: " + c.check());
        seeHillsAndWinds(c, all);
        all.add("text: " + c.text(0));
        all.add("law 0 of the tape: " + c.law(0, 3, 5, 7));
        for (int sheet = 0; sheet < 4; sheet++) {
            seeSheet(c, sheet, all);
        }
        all.add("restore: " + c.restore());
        seeClouds(c, all);
        seeHillsAndWinds(c, all);
        all.add("image: " + c.image());
        return all;
    }

    private static void seeClouds(SaltClouds c, List<String> all) {
        for (int what = 0; what <= 9; what++) {
            all.add("count " + what + ": " + c.count(what));
        }
        for (int cloud = 0; cloud < c.count(0); cloud++) {
            for (int what = 0; what <= 9; what++) {
                all.add("ofCloud " + cloud + ", " + what + ": " + c.ofCloud(cloud, what));
            }
        }
        all.add("law 0: " + c.law(0, 3, 5, 7));
        all.add("law 1: " + c.law(1, 9, 4, 2));
    }

    private static void seeHillsAndWinds(SaltClouds c, List<String> all) {
        for (int place = 0; place < 12; place++) {
            all.add("hill " + place + ": " + c.hill(place, 0));
        }
        for (int h = 0; h < 8; h++) {
            all.add("wind " + h + ": " + c.wind(h, 0));
        }
    }

    /** Sees numbers 0 to 9, the first 12 of them, and by two that are cut how many bits there are. */
    private static void seeSheet(SaltClouds c, int sheet, List<String> all) {
        int numbers = c.hills(sheet);
        all.add("numbers of sheet " + sheet + ": " + numbers);
        for (int i = 0; i < numbers; i++) {
            all.add("sheet " + sheet + ", " + i + ": " + c.hill(i, 0));
        }
        c.put(sheet, 0, 256);
        all.add("sheet " + sheet + " with 256: " + c.hills(sheet));
        c.put(sheet, 0, 65536);
        all.add("sheet " + sheet + " with 65536: " + c.hills(sheet));
    }

    // ---- objects to begin with

    /** Something of all: CLOUD 4 is gone, SHEET 3 is missing, an IMAGE differs from what is. */
    static SaltClouds sky() {
        SaltClouds c = clouds(4, 0, 100, 13, 3, 60, 25, 3, 40, 37, 5, 20, 8, 5, 7);
        salts(c, 0, 30, 0, 5);
        salts(c, 1, 2, 20, 0);
        salts(c, 2, 0, 0, 50);
        salts(c, 4, 9, 1, 1);
        c.join(3, 4);
        c.hill(3, 4);
        c.hill(5, 9);
        c.wind(0, 2);
        c.wind(7, -3);
        c.seed(77);
        text(c, 0, "t/2+w");
        text(c, 1, "(a>b)+h");
        c.image();
        c.hours(1);
        c.hill(0, 1);
        c.wind(1, 1);
        c.voice(2, 3, 5);
        sheet(c, 0, 8, 5, 4, 3, 2, 1);
        sheet(c, 1, 16, 3, 9, 0, 7);
        sheet(c, 2, 32);
        feed(c, "w+3");
        c.tell(waters(c, 1));
        c.tell(waters(c, 2));
        return c;
    }

    /** As many as there may be, the last one gone. */
    static SaltClouds fullSky() {
        SaltClouds c = sky();
        c.cloud(40, 7, 80);
        c.cloud(51, 7, 30);
        c.cloud(62, 9, 10);
        c.set(7, 0, 7);
        c.join(5, 7);
        return c;
    }

    static SaltClouds lastHour() {
        SaltClouds c = sky();
        for (int i = 0; i < 49; i++) {
            c.hours(200);
        }
        c.hours(198);
        return c;
    }

    /** Triples of km, PLACE, WATER. */
    static SaltClouds clouds(int... triples) {
        SaltClouds c = new SaltClouds();
        for (int i = 0; i < triples.length; i += 3) {
            c.cloud(triples[i], triples[i + 1], triples[i + 2]);
        }
        return c;
    }

    static void salts(SaltClouds c, int cloud, int salt0, int salt1, int salt2) {
        c.set(cloud, 2, salt0);
        c.set(cloud, 3, salt1);
        c.set(cloud, 4, salt2);
    }

    static void sheet(SaltClouds c, int sheet, int bits, int... numbers) {
        c.sheet(sheet, bits, numbers.length);
        for (int i = 0; i < numbers.length; i++) {
            c.put(sheet, i, numbers[i]);
        }
    }

    static void feed(SaltClouds c, String bytes) {
        for (int i = 0; i < bytes.length(); i++) {
            c.feed(bytes.charAt(i), 1);
        }
    }

    static int text(SaltClouds c, int use, String bytes) {
        feed(c, bytes);
        return c.text(use);
    }

    /** What a new object answers to a TEXT of a USE. */
    static int read(int use, String bytes) {
        return text(new SaltClouds(), use, bytes);
    }

    /** What a TEXT of USE 0 gives. */
    static int worth(String bytes, int t, int w, int s) {
        SaltClouds c = new SaltClouds();
        text(c, 0, bytes);
        return c.law(0, t, w, s);
    }

    /** Over the sea, with m 0, it is NOBODY when WATER is 301. */
    static SaltClouds fading(int... waters) {
        SaltClouds c = new SaltClouds();
        for (int i = 0; i < waters.length; i++) {
            c.cloud(0, 0, waters[i]);
            c.set(i, 2, 30);
        }
        return c;
    }

    static void hours(SaltClouds c, int n) {
        int left = n;
        while (left > 0) {
            c.hours(Math.min(200, left));
            left -= Math.min(200, left);
        }
    }

    private static int waters(SaltClouds c, int hours) {
        int together = 0;
        for (int cloud = 0; cloud < c.count(0); cloud++) {
            together += c.then(hours, cloud, 3);
        }
        return together;
    }
}
