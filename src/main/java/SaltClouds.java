/** The people of the upper air: clouds of kinds, known by how salt they are. */
public final class SaltClouds {
    private static final int LOW = -1000000000;
    private static final int BEYOND = LOW - 1;
    private static final int NONE = LOW - 2;
    private static final int STATE = LOW - 3;
    private static final int FULL = LOW - 4;
    private static final int UNLIKE = LOW - 5;
    private static final int ERRORS = 5;

    private static final int CLOUD = 0;
    private static final int MIST = 1;
    private static final int STORM = 2;
    private static final int SAINT = 3;
    private static final int VEIL = 4;
    private static final int FEUD = 5;
    private static final int BEACH = 6;
    private static final int MOST_KM = 69;

    private static final int MOST_CLOUDS = 8;
    private static final int PLACES = 12;
    private static final int MOST_WATER = 999;
    private static final int SALTS = 3;
    private static final int MOST_SALT = 99;
    private static final int MOST_TASTE = 9999;
    private static final int MOST_HEIGHT = 9;
    private static final int WINDS = 8;
    private static final int MOST_WIND = 3;
    private static final int MOST_HOUR = 9999;
    private static final int MOST_SEA = 999999;
    private static final int MOST_HOURS = 200;

    private static final int NAME = 0;
    private static final int DEBT = 1;
    private static final int MOST_DEBT = 99;
    private static final int TAPE_ROOM = 50;
    private static final int WORD_BYTES = 8;
    private static final int NO_ERROR_FAULT = -10;

    private static final int MOST_WAITING = 20;
    private static final int SHEETS = 4;
    private static final int SHEET_ROOM = 40;
    private static final int STORM_NUMBERS = 4;

    private final Sky now = new Sky();
    private final Sky kept = new Sky();
    private final Sky thought = new Sky();
    private int images = 0;
    private final Sheet[] sheets = new Sheet[SHEETS];
    private final TextReader reader = new TextReader();
    private final Voices voices = new Voices();
    private final int[] tolds = new int[ERRORS + 1];

    public SaltClouds() {
        for (int i = 0; i < sheets.length; i++) {
            sheets[i] = new Sheet();
        }
    }

    // ---- clouds, hills, winds

    public int cloud(int km, int place, int water) {
        if (!within(km, 0, MOST_KM) || !isPlace(place) || !within(water, 0, MOST_WATER)) {
            return refuse(BEYOND);
        }
        if (now.made >= MOST_CLOUDS) {
            return refuse(FULL);
        }
        return now.make(km, place, water);
    }

    public int ofCloud(int cloud, int what) {
        if (!hasCloud(cloud) || !within(what, 0, 11)) {
            return refuse(BEYOND);
        }
        return now.factOf(cloud, what);
    }

    public int become(int cloud, int km) {
        if (!hasCloud(cloud) || !within(km, 0, MOST_KM)) {
            return refuse(BEYOND);
        }
        int was = now.clouds[cloud].kind;
        now.clouds[cloud].takeKind(km);
        return was;
    }

    public int as(int cloud, int kind) {
        if (!hasCloud(cloud) || !within(kind, CLOUD, BEACH)) {
            return refuse(BEYOND);
        }
        if (!isUnder(now.clouds[cloud].kind, kind)) {
            return refuse(UNLIKE);
        }
        return now.clouds[cloud].m;
    }

    public int set(int cloud, int what, int v) {
        if (!hasCloud(cloud) || !within(what, 0, 4) || !within(v, 0, mostToSet(what))) {
            return refuse(BEYOND);
        }
        if (!now.clouds[cloud].there) {
            return refuse(STATE);
        }
        return now.clouds[cloud].change(what, v);
    }

    public int hill(int place, int v) {
        if (!isPlace(place) || !within(v, 0, MOST_HEIGHT)) {
            return refuse(BEYOND);
        }
        int was = now.heights[place];
        now.heights[place] = v;
        return was;
    }

    public int wind(int h, int v) {
        if (!within(h, 0, WINDS - 1) || !within(v, -MOST_WIND, MOST_WIND)) {
            return refuse(BEYOND);
        }
        int was = now.windRow[h];
        now.windRow[h] = v;
        return was;
    }

    public int join(int cloud, int other) {
        if (!areTwo(cloud, other)) {
            return refuse(BEYOND);
        }
        if (!now.areTogether(cloud, other)) {
            return refuse(STATE);
        }
        now.clouds[cloud].takeIn(now.clouds[other]);
        return now.clouds[cloud].water;
    }

    public int part(int cloud, int other) {
        if (!areTwo(cloud, other)) {
            return refuse(BEYOND);
        }
        if (!now.clouds[cloud].there || now.clouds[other].there) {
            return refuse(STATE);
        }
        now.clouds[cloud].halveInto(now.clouds[other]);
        return now.clouds[other].water;
    }

    // ---- texts

    public int feed(long word, int n) {
        if (!within(n, 1, WORD_BYTES)) {
            return refuse(BEYOND);
        }
        if (now.taped + n > TAPE_ROOM) {
            return refuse(FULL);
        }
        for (int i = 0; i < n; i++) {
            now.tape[now.taped + i] = (int) (word >>> (8 * i)) & 255;
        }
        now.taped += n;
        return now.taped;
    }

    public int text(int use) {
        if (!within(use, NAME, DEBT)) {
            return refuse(BEYOND);
        }
        int fault = reader.read(now.tape, now.taped, use);
        now.taped = 0;
        if (fault >= 0) {
            return NO_ERROR_FAULT - fault;
        }
        now.textOf(use).takeFrom(reader.draft);
        return 1;
    }

    public int law(int use, int a, int b, int c) {
        if (!within(use, NAME, DEBT)) {
            return refuse(BEYOND);
        }
        return use == NAME ? now.nameBy(a, b, c) : now.debtBy(a, b, c);
    }

    // ---- hours

    public int hours(int n) {
        int error = errorOfHours(n);
        if (error != 0) {
            return refuse(error);
        }
        now.passHours(n);
        return now.nobodies();
    }

    public int loose(int n) {
        int error = errorOfHours(n);
        if (error != 0) {
            return refuse(error);
        }
        for (int i = 0; i < n; i++) {
            now.passHour(now.drawWind());
        }
        return now.nobodies();
    }

    public int then(int n, int cloud, int what) {
        boolean isTold = within(what, 2, 6) || what == 8;
        if (!within(n, 0, MOST_HOURS) || !hasCloud(cloud) || !isTold) {
            return refuse(BEYOND);
        }
        thought.takeFrom(now);
        thought.passHours(n);
        return thought.factOf(cloud, what);
    }

    public int pay() {
        return now.payRound();
    }

    // ---- what would be

    public int nobodyBy(int cloud) {
        if (!hasCloud(cloud)) {
            return refuse(BEYOND);
        }
        thought.takeFrom(now);
        for (int h = 0; h <= MOST_HOURS; h++) {
            if (thought.isNobody(cloud)) {
                return h;
            }
            thought.passHours(1);
        }
        return refuse(NONE);
    }

    public int first() {
        thought.takeFrom(now);
        for (int h = 0; h <= MOST_HOURS; h++) {
            int nobody = thought.leastNobodyThere();
            if (nobody >= 0) {
                return nobody;
            }
            thought.passHours(1);
        }
        return refuse(NONE);
    }

    public int comes(int taste, int what) {
        if (!within(taste, 0, MOST_TASTE) || !within(what, 0, 1)) {
            return refuse(BEYOND);
        }
        int best = now.fewestOfTaste(taste);
        if (best == 0) {
            return refuse(NONE);
        }
        return what == 0 ? best : Integer.bitCount(best);
    }

    public int stays(int what) {
        if (!within(what, 0, SALTS)) {
            return refuse(BEYOND);
        }
        return now.totalOf(now.setOfAll(), what);
    }

    public int meets(int cloud, int other) {
        if (!areTwo(cloud, other)) {
            return refuse(BEYOND);
        }
        if (!now.clouds[cloud].there || !now.clouds[other].there) {
            return refuse(STATE);
        }
        thought.takeFrom(now);
        for (int h = 0; h <= MOST_HOURS; h++) {
            if (thought.areTogether(cloud, other)) {
                return h;
            }
            thought.passHours(1);
        }
        return refuse(NONE);
    }

    public int storm(int sheet, int what) {
        if (!isSheet(sheet) || !within(what, 0, 1)) {
            return refuse(BEYOND);
        }
        if (sheets[sheet].isMissing() || sheets[sheet].size != STORM_NUMBERS) {
            return refuse(NONE);
        }
        int answer = now.setsOfTotals(sheets[sheet].numbers, what == 0);
        return answer == 0 ? refuse(NONE) : answer;
    }

    public int paid() {
        thought.takeFrom(now);
        return thought.payRound();
    }

    public int sun(int cloud, int v, int what) {
        if (!hasCloud(cloud) || !within(v, 1, MOST_SALT) || !within(what, 0, 1)) {
            return refuse(BEYOND);
        }
        int salt = now.clouds[cloud].firstSaltBelow(v);
        return what == 0 ? salt : now.clouds[cloud].minutesToBelow(salt, v);
    }

    public int winds(int cloud, int sheet, int i) {
        if (!hasCloud(cloud) || !isSheet(sheet) || !within(i, 0, WINDS - 1)) {
            return refuse(BEYOND);
        }
        Cloud mover = now.clouds[cloud];
        if (!mover.there) {
            return refuse(STATE);
        }
        Sheet places = sheets[sheet];
        int counting = Math.min(WINDS, places.size);
        if (places.isMissing() || i >= counting) {
            return refuse(NONE);
        }
        int from = mover.place;
        int answer = 0;
        for (int k = 0; k < counting; k++) {
            int wind = mover.leastWind(from, places.numbers[k]);
            if (wind > MOST_WIND) {
                return refuse(NONE);
            }
            if (k == i) {
                answer = wind;
            }
            from = places.numbers[k];
        }
        return answer;
    }

    // ---- draws, voices, sheets, images, what is told

    public int seed(int v) {
        int was = now.z;
        now.z = v;
        return was;
    }

    public int voice(int cloud, int act, int x) {
        if (!hasCloud(cloud) || !within(act, Voices.DRIFTS, Voices.TELLS)) {
            return refuse(BEYOND);
        }
        return voices.speak(cloud, now.clouds[cloud], act, x);
    }

    public int trace(int i) {
        if (!within(i, 0, voices.noted - 1)) {
            return refuse(NONE);
        }
        return voices.bodies[i];
    }

    public int sheet(int sheet, int bits, int n) {
        boolean isWidth = bits == 0 || bits == 8 || bits == 16 || bits == 32;
        if (!isSheet(sheet) || !isWidth) {
            return refuse(BEYOND);
        }
        if (bits == 0) {
            sheets[sheet].lay(0, 0);
            return 1;
        }
        if (n < 0) {
            return refuse(STATE);
        }
        if (n > SHEET_ROOM) {
            return refuse(BEYOND);
        }
        sheets[sheet].lay(bits, n);
        return 1;
    }

    public int put(int sheet, int i, int v) {
        if (!isSheet(sheet)) {
            return refuse(BEYOND);
        }
        if (sheets[sheet].isMissing()) {
            return refuse(NONE);
        }
        if (!within(i, 0, sheets[sheet].size - 1)) {
            return refuse(BEYOND);
        }
        sheets[sheet].write(i, v);
        return 1;
    }

    public int move(int sheet, int i, int other, int j, int n) {
        if (!isSheet(sheet) || !isSheet(other)) {
            return refuse(BEYOND);
        }
        Sheet source = sheets[sheet];
        Sheet goal = sheets[other];
        if (source.isMissing() || goal.isMissing()) {
            return refuse(NONE);
        }
        if (source.bits != goal.bits) {
            return refuse(UNLIKE);
        }
        if (!source.hasRun(i, n) || !goal.hasRun(j, n)) {
            return refuse(BEYOND);
        }
        System.arraycopy(source.numbers, i, goal.numbers, j, n);
        return n;
    }

    public int hills(int sheet) {
        if (!isSheet(sheet)) {
            return refuse(BEYOND);
        }
        if (sheets[sheet].isMissing()) {
            return refuse(NONE);
        }
        int most = Math.min(PLACES, sheets[sheet].size);
        int laid = 0;
        while (laid < most && within(sheets[sheet].numbers[laid], 0, MOST_HEIGHT)) {
            now.heights[laid] = sheets[sheet].numbers[laid];
            laid++;
        }
        return laid;
    }

    public int judge(int sheet) {
        if (!isSheet(sheet)) {
            return refuse(BEYOND);
        }
        if (sheets[sheet].isMissing()) {
            return refuse(NONE);
        }
        int both = Math.min(sheets[sheet].size, now.made);
        for (int i = 0; i < both; i++) {
            if (sheets[sheet].numbers[i] != now.clouds[i].water) {
                return i;
            }
        }
        return sheets[sheet].size == now.made ? -1 : both;
    }

    public int image() {
        kept.takeFrom(now);
        images++;
        return images;
    }

    public int restore() {
        if (images == 0) {
            return refuse(NONE);
        }
        now.takeFrom(kept);
        return now.hour;
    }

    public int tell(int v) {
        if (now.waiting >= MOST_WAITING) {
            return refuse(FULL);
        }
        now.waits[now.waiting] = v;
        now.waiting++;
        return now.waiting;
    }

    public int check() {
        int waited = now.waiting;
        now.waiting = 0;
        thought.takeFrom(now);
        for (int i = 0; i < waited; i++) {
            thought.passHours(1);
            if (thought.totalOf(thought.setOfAll(), 0) != now.waits[i]) {
                return 1 + i;
            }
        }
        return 0;
    }

    public int count(int what) {
        switch (what) {
            case 0: return now.made;
            case 1: return now.hour;
            case 2: return now.sea;
            case 3: return Integer.bitCount(now.setOfAll());
            case 4: return now.nobodies();
            case 5: return now.totalOf(now.setOfAll(), 0);
            case 6: return now.taped;
            case 7: return now.waiting;
            case 8: return voices.noted;
            case 9: return now.z;
            default: return refuse(BEYOND);
        }
    }

    public int told(int k) {
        if (!within(k, 1, ERRORS)) {
            return refuse(BEYOND);
        }
        return tolds[k];
    }

    // ---- what the acts ask first

    private int refuse(int error) {
        int k = LOW - error;
        if (within(k, 1, ERRORS)) {
            tolds[k]++;
        }
        return error;
    }

    private boolean hasCloud(int cloud) {
        return within(cloud, 0, now.made - 1);
    }

    private boolean areTwo(int cloud, int other) {
        return hasCloud(cloud) && hasCloud(other) && cloud != other;
    }

    /** Answers 0 for none. */
    private int errorOfHours(int n) {
        if (!within(n, 1, MOST_HOURS)) {
            return BEYOND;
        }
        return now.hour + n > MOST_HOUR ? STATE : 0;
    }

    private static boolean within(int v, int least, int most) {
        return v >= least && v <= most;
    }

    private static boolean isPlace(int place) {
        return within(place, 0, PLACES - 1);
    }

    private static boolean isSheet(int sheet) {
        return within(sheet, 0, SHEETS - 1);
    }

    private static int mostToSet(int what) {
        switch (what) {
            case 0: return PLACES - 1;
            case 1: return MOST_WATER;
            default: return MOST_SALT;
        }
    }

    /** Answers -1 for the KIND that has none above it. */
    private static int kindAbove(int kind) {
        switch (kind) {
            case MIST: case STORM: case SAINT: return CLOUD;
            case VEIL: return MIST;
            case FEUD: return STORM;
            case BEACH: return SAINT;
            default: return -1;
        }
    }

    private static boolean isUnder(int kind, int high) {
        int at = kind;
        for (int step = 0; step <= BEACH && at >= 0; step++) {
            if (at == high) {
                return true;
            }
            at = kindAbove(at);
        }
        return false;
    }

    private static int tasteBy(int salts, int water) {
        return water <= 0 ? MOST_TASTE : Math.min(MOST_TASTE, 100 * salts / water);
    }

    /** One of the people, THERE or gone; one that is gone has neither WATER nor SALTS. */
    private static final class Cloud {
        int kind = CLOUD;
        int m = 0;
        int place = 0;
        int water = 0;
        boolean there = false;
        final int[] salts = new int[SALTS];

        void takeFrom(Cloud other) {
            kind = other.kind;
            m = other.m;
            place = other.place;
            water = other.water;
            there = other.there;
            System.arraycopy(other.salts, 0, salts, 0, SALTS);
        }

        void appear(int km, int where, int wet) {
            takeKind(km);
            place = where;
            water = wet;
            there = true;
            for (int i = 0; i < SALTS; i++) {
                salts[i] = 0;
            }
        }

        void takeKind(int km) {
            kind = km / 10;
            m = km % 10;
        }

        int saltAt(int i) {
            return i >= 0 && i < SALTS ? salts[i] : 0;
        }

        int allSalts() {
            return salts[0] + salts[1] + salts[2];
        }

        int taste() {
            return tasteBy(allSalts(), water);
        }

        /** Answers what was there. */
        int change(int what, int v) {
            int was;
            switch (what) {
                case 0:
                    was = place;
                    place = v;
                    return was;
                case 1:
                    was = water;
                    water = v;
                    return was;
                case 2: case 3: case 4:
                    was = salts[what - 2];
                    salts[what - 2] = v;
                    return was;
                default:
                    return 0;
            }
        }

        void takeIn(Cloud other) {
            water = Math.min(MOST_WATER, water + other.water);
            for (int i = 0; i < SALTS; i++) {
                salts[i] = Math.min(MOST_SALT, salts[i] + other.salts[i]);
                other.salts[i] = 0;
            }
            other.water = 0;
            other.there = false;
        }

        void halveInto(Cloud other) {
            other.there = true;
            other.place = place;
            other.water = water / 2;
            water -= other.water;
            for (int i = 0; i < SALTS; i++) {
                other.salts[i] = salts[i] / 2;
                salts[i] -= other.salts[i];
            }
        }

        int driftBy(int wind) {
            switch (kind) {
                case MIST: return wind / 2;
                case STORM: case FEUD: return 2 * wind;
                case VEIL: return wind / 2 + m % 2;
                case BEACH: return 0;
                default: return wind;
            }
        }

        int placeBy(int from, int wind) {
            return Math.floorMod(from + driftBy(wind), PLACES);
        }

        /** Answers more than MOST_WIND where no WIND brings it there. */
        int leastWind(int from, int to) {
            int wind = -MOST_WIND;
            while (wind <= MOST_WIND && placeBy(from, wind) != to) {
                wind++;
            }
            return wind;
        }

        int rainAt(int height) {
            return height <= 0 ? 0 : Math.min(water, rainIfItHad(height));
        }

        private int rainIfItHad(int height) {
            int plain = 2 * height;
            switch (kind) {
                case MIST: case VEIL: return 0;
                case STORM: return plain + m;
                case FEUD: return 2 * (plain + m);
                case SAINT: case BEACH: return Math.max(0, plain - m);
                default: return plain;
            }
        }

        private boolean keeps(int salt) {
            switch (kind) {
                case STORM: return salt != 2;
                case FEUD: return salt == 0;
                case SAINT: case BEACH: return salt != 0;
                default: return true;
            }
        }

        /** Answers how much it rained. */
        int rainOverHill(int height) {
            int rained = rainAt(height);
            water -= rained;
            for (int i = 0; i < SALTS && rained > 0; i++) {
                if (!keeps(i)) {
                    salts[i] -= salts[i] / 10;
                }
            }
            return rained;
        }

        void drinkFromSea() {
            if (m % 2 == 0) {
                water = Math.min(MOST_WATER, water + 1);
            }
        }

        int firstSaltBelow(int v) {
            int best = 0;
            for (int i = 1; i < SALTS; i++) {
                if (minutesToBelow(i, v) < minutesToBelow(best, v)) {
                    best = i;
                }
            }
            return best;
        }

        /** SALT 0 loses 1 a minute, SALT 1 2, SALT 2 3, until it is less than v, which is 1 at least. */
        int minutesToBelow(int salt, int v) {
            int left = saltAt(salt);
            int minutes = 0;
            while (left >= v && minutes <= MOST_SALT) {
                left = Math.max(0, left - (salt + 1));
                minutes++;
            }
            return minutes;
        }
    }

    /** All that an image keeps; what is only thought happens in a copy. */
    private static final class Sky {
        final Cloud[] clouds = new Cloud[MOST_CLOUDS];
        int made = 0;
        final int[] heights = new int[PLACES];
        final int[] windRow = new int[WINDS];
        int hour = 0;
        int sea = 0;
        int z = 1;
        final int[] tape = new int[TAPE_ROOM];
        int taped = 0;
        final Text nameText = new Text();
        final Text debtText = new Text();
        final int[] waits = new int[MOST_WAITING];
        int waiting = 0;

        Sky() {
            for (int i = 0; i < clouds.length; i++) {
                clouds[i] = new Cloud();
            }
        }

        void takeFrom(Sky other) {
            for (int i = 0; i < MOST_CLOUDS; i++) {
                clouds[i].takeFrom(other.clouds[i]);
            }
            made = other.made;
            System.arraycopy(other.heights, 0, heights, 0, PLACES);
            System.arraycopy(other.windRow, 0, windRow, 0, WINDS);
            hour = other.hour;
            sea = other.sea;
            z = other.z;
            System.arraycopy(other.tape, 0, tape, 0, TAPE_ROOM);
            taped = other.taped;
            nameText.takeFrom(other.nameText);
            debtText.takeFrom(other.debtText);
            System.arraycopy(other.waits, 0, waits, 0, MOST_WAITING);
            waiting = other.waiting;
        }

        /** Asked only while there is room for one more. */
        int make(int km, int place, int water) {
            int number = made;
            clouds[number].appear(km, place, water);
            made++;
            return number;
        }

        int factOf(int cloud, int what) {
            Cloud one = clouds[cloud];
            switch (what) {
                case 0: return one.kind;
                case 1: return one.m;
                case 2: return one.place;
                case 3: return one.water;
                case 4: case 5: case 6: return one.saltAt(what - 4);
                case 7: return one.there ? 1 : 0;
                case 8: return one.taste();
                case 9: return nameOf(one);
                case 10: return one.driftBy(windNow());
                case 11: return one.rainAt(heightUnder(one));
                default: return 0;
            }
        }

        int heightUnder(Cloud one) {
            return isPlace(one.place) ? heights[one.place] : 0;
        }

        int windNow() {
            return windRow[Math.floorMod(hour, WINDS)];
        }

        int drawWind() {
            z = z * 1103515245 + 12345;
            return (z >>> 8) % 7 - 3;
        }

        void passHours(int n) {
            for (int i = 0; i < n; i++) {
                passHour(windNow());
            }
        }

        void passHour(int wind) {
            for (int i = 0; i < made; i++) {
                if (clouds[i].there) {
                    moveOne(clouds[i], wind);
                }
            }
            hour++;
        }

        private void moveOne(Cloud one, int wind) {
            one.place = one.placeBy(one.place, wind);
            int height = heightUnder(one);
            if (height > 0) {
                sea = Math.min(MOST_SEA, sea + one.rainOverHill(height));
            } else {
                one.drinkFromSea();
            }
        }

        Text textOf(int use) {
            return use == NAME ? nameText : debtText;
        }

        int nameBy(int taste, int water, int salt) {
            return nameText.isRead ? nameText.workOut(taste, water, salt) : taste / 10;
        }

        int debtBy(int own, int others, int height) {
            int debt = own > others ? (own - others) % 9 : 0;
            if (debtText.isRead) {
                debt = debtText.workOut(own, others, height);
            }
            return Math.max(0, Math.min(MOST_DEBT, debt));
        }

        int nameOf(Cloud one) {
            return nameBy(one.taste(), one.water, one.saltAt(0));
        }

        boolean isNobody(int cloud) {
            return !clouds[cloud].there || nameOf(clouds[cloud]) == 0;
        }

        int nobodies() {
            int nobodies = 0;
            for (int i = 0; i < made; i++) {
                if (isNobody(i)) {
                    nobodies++;
                }
            }
            return nobodies;
        }

        /** Answers -1 for none. */
        int leastNobodyThere() {
            for (int i = 0; i < made; i++) {
                if (clouds[i].there && isNobody(i)) {
                    return i;
                }
            }
            return -1;
        }

        boolean areTogether(int cloud, int other) {
            return clouds[cloud].there && clouds[other].there
                && clouds[cloud].place == clouds[other].place;
        }

        /** Answers how much WATER went. */
        int payRound() {
            int went = 0;
            for (int i = 0; i < made; i++) {
                for (int j = 0; j < made; j++) {
                    if (i != j && areTogether(i, j)) {
                        went += payOne(clouds[i], clouds[j]);
                    }
                }
            }
            return went;
        }

        private int payOne(Cloud own, Cloud other) {
            int debt = debtBy(nameOf(own), nameOf(other), heightUnder(own));
            int goes = Math.min(own.water, debt);
            own.water -= goes;
            other.water = Math.min(MOST_WATER, other.water + goes);
            return goes;
        }

        int setOfAll() {
            int set = 0;
            for (int i = 0; i < made; i++) {
                if (clouds[i].there) {
                    set |= 1 << i;
                }
            }
            return set;
        }

        /** WATER (what 0) or SALT 0 to 2 (what 1 to 3) of a set together. */
        int totalOf(int set, int what) {
            int total = 0;
            for (int i = 0; i < made; i++) {
                if ((set >> i & 1) == 1) {
                    total += what == 0 ? clouds[i].water : clouds[i].saltAt(what - 1);
                }
            }
            return total;
        }

        private int tasteOf(int set) {
            int salts = totalOf(set, 1) + totalOf(set, 2) + totalOf(set, 3);
            return tasteBy(salts, totalOf(set, 0));
        }

        /** Answers 0, which is no set, where none has that TASTE. */
        int fewestOfTaste(int taste) {
            int all = setOfAll();
            int best = 0;
            for (int set = 1; set <= all; set++) {
                boolean isFewer = best == 0 || Integer.bitCount(set) < Integer.bitCount(best);
                if ((set & ~all) == 0 && isFewer && tasteOf(set) == taste) {
                    best = set;
                }
            }
            return best;
        }

        /** Answers the least set with these totals, or how many there are; 0 for none. */
        int setsOfTotals(int[] totals, boolean wantsLeast) {
            int all = setOfAll();
            int found = 0;
            for (int set = 1; set <= all; set++) {
                if ((set & ~all) == 0 && hasTotals(set, totals)) {
                    if (wantsLeast) {
                        return set;
                    }
                    found++;
                }
            }
            return found;
        }

        private boolean hasTotals(int set, int[] totals) {
            for (int what = 0; what < STORM_NUMBERS && what < totals.length; what++) {
                if (totalOf(set, what) != totals[what]) {
                    return false;
                }
            }
            return true;
        }
    }

    /** A read TEXT as steps for a stack: a number is itself, a NAME or a sign its code. */
    private static final class Text {
        static final int FIRST_NAME = -1;
        static final int LAST_NAME = -3;

        boolean isRead = false;
        final int[] steps = new int[TAPE_ROOM];
        int size = 0;
        private final int[] stack = new int[TAPE_ROOM];

        void takeFrom(Text other) {
            isRead = other.isRead;
            size = other.size;
            System.arraycopy(other.steps, 0, steps, 0, TAPE_ROOM);
        }

        void empty() {
            isRead = false;
            size = 0;
        }

        void add(int step) {
            if (size < steps.length) {
                steps[size] = step;
                size++;
            }
        }

        int workOut(int a, int b, int c) {
            int top = 0;
            for (int i = 0; i < size; i++) {
                int step = steps[i];
                if (step >= LAST_NAME) {
                    if (top >= stack.length) {
                        return 0;
                    }
                    stack[top] = valueOf(step, a, b, c);
                    top++;
                } else if (step == -'!') {
                    if (top < 1) {
                        return 0;
                    }
                    stack[top - 1] = stack[top - 1] == 0 ? 1 : 0;
                } else {
                    if (top < 2) {
                        return 0;
                    }
                    top--;
                    stack[top - 1] = workOutSign(-step, stack[top - 1], stack[top]);
                }
            }
            return stack[0];
        }

        private static int valueOf(int step, int a, int b, int c) {
            switch (step) {
                case FIRST_NAME: return a;
                case -2: return b;
                case LAST_NAME: return c;
                default: return step;
            }
        }

        private static int workOutSign(int sign, int left, int right) {
            switch (sign) {
                case '|': return left != 0 || right != 0 ? 1 : 0;
                case '&': return left != 0 && right != 0 ? 1 : 0;
                case '<': return left < right ? 1 : 0;
                case '=': return left == right ? 1 : 0;
                case '>': return left > right ? 1 : 0;
                case '+': return left + right;
                case '-': return left - right;
                case '*': return left * right;
                case '/': return right == 0 ? 0 : left / right;
                case '%': return right == 0 ? 0 : left % right;
                default: return 0;
            }
        }
    }

    /** Reads THE TAPE into a draft, by the letters of the document's grammar. */
    private static final class TextReader {
        private static final int MOST_OPEN = 5;
        private static final int MOST_DIGITS = 4;

        final Text draft = new Text();
        private int[] bytes = new int[0];
        private int size = 0;
        private String names = "";
        private int at = 0;
        private int fault = -1;

        /** Answers the FAULT; -1: the draft is a TEXT. */
        int read(int[] tape, int taped, int use) {
            bytes = tape;
            size = Math.min(taped, tape.length);
            names = use == NAME ? "tws" : "abh";
            at = 0;
            fault = -1;
            draft.empty();
            readT(0);
            if (at < size) {
                stop();
            }
            draft.isRead = fault < 0;
            return fault;
        }

        private void readT(int open) {
            readA(open);
            for (int turn = 0; turn < TAPE_ROOM && takeOneOf("|") != 0; turn++) {
                readA(open);
                draft.add(-'|');
            }
        }

        private void readA(int open) {
            readB(open);
            for (int turn = 0; turn < TAPE_ROOM && takeOneOf("&") != 0; turn++) {
                readB(open);
                draft.add(-'&');
            }
        }

        private void readB(int open) {
            readS(open);
            int sign = takeOneOf("<=>");
            if (sign != 0) {
                readS(open);
                draft.add(-sign);
            }
        }

        private void readS(int open) {
            readP(open);
            int sign = takeOneOf("+-");
            for (int turn = 0; turn < TAPE_ROOM && sign != 0; turn++) {
                readP(open);
                draft.add(-sign);
                sign = takeOneOf("+-");
            }
        }

        private void readP(int open) {
            readQ(open);
            int sign = takeOneOf("*/%");
            for (int turn = 0; turn < TAPE_ROOM && sign != 0; turn++) {
                readQ(open);
                draft.add(-sign);
                sign = takeOneOf("*/%");
            }
        }

        private void readQ(int open) {
            if (isDigitNext()) {
                readNumber();
                return;
            }
            int name = takeOneOf(names);
            if (name != 0) {
                draft.add(Text.FIRST_NAME - names.indexOf((char) name));
                return;
            }
            int opener = open < MOST_OPEN ? takeOneOf("!(") : 0;
            if (opener == '!') {
                readQ(open + 1);
                draft.add(-'!');
            } else if (opener == '(') {
                readT(open + 1);
                if (takeOneOf(")") == 0) {
                    stop();
                }
            } else {
                stop();
            }
        }

        private void readNumber() {
            int number = 0;
            for (int digits = 0; digits < MOST_DIGITS && isDigitNext(); digits++) {
                number = 10 * number + bytes[at] - '0';
                at++;
            }
            draft.add(number);
        }

        private boolean goesOn() {
            return fault < 0 && at >= 0 && at < size && at < bytes.length;
        }

        private boolean isDigitNext() {
            return goesOn() && bytes[at] >= '0' && bytes[at] <= '9';
        }

        /** Answers the sign that it took; 0 for none, which no TEXT has. */
        private int takeOneOf(String signs) {
            if (!goesOn() || signs.indexOf((char) bytes[at]) < 0) {
                return 0;
            }
            at++;
            return bytes[at - 1];
        }

        private void stop() {
            if (fault < 0) {
                fault = at;
            }
        }
    }

    /** The BODIES that speak for the KINDS, and THE TRACE of the latest voice. */
    private static final class Voices {
        static final int DRIFTS = 0;
        static final int RAINS = 1;
        static final int TASTES = 2;
        static final int TELLS = 3;
        private static final int TRACE_ROOM = 40;
        private static final int MOST_DEPTH = 40;

        final int[] bodies = new int[TRACE_ROOM];
        int noted = 0;
        private int kind = CLOUD;
        private int number = 0;
        private int m = 0;

        int speak(int cloud, Cloud speaker, int act, int x) {
            noted = 0;
            kind = speaker.kind;
            number = cloud;
            m = speaker.m;
            return own(act, x, 0);
        }

        private int own(int act, int x, int depth) {
            return from(kind, act, x, depth);
        }

        /** Lets the KIND speak, or the next one above it that has a BODY for the act. */
        private int from(int lowest, int act, int x, int depth) {
            if (depth > MOST_DEPTH) {
                return 0;
            }
            int at = lowest;
            for (int step = 0; step < BEACH && at > CLOUD && bodyOf(at, act) == 0; step++) {
                at = kindAbove(at);
            }
            return begin(bodyOf(at, act), kindAbove(at), x, depth + 1);
        }

        private int begin(int body, int above, int x, int depth) {
            note(body);
            switch (body) {
                case 10: return x + number;
                case 11: return own(DRIFTS, x, depth) * 2;
                case 12: return x - m;
                case 13: return own(RAINS, x, depth) ^ own(TASTES, x, depth);
                case 20: return from(above, DRIFTS, x, depth) * 3;
                case 30: return from(above, RAINS, x, depth) - own(TASTES, 1, depth);
                case 40: return -from(above, TASTES, x, depth);
                case 50: return from(above, TELLS, x, depth) - own(DRIFTS, 2, depth);
                case 60: return from(above, RAINS, x + 1, depth);
                case 70: return from(above, TASTES, x, depth) ^ number;
                case 71: return own(RAINS, x, depth) - from(above, TELLS, x, depth);
                default: return 0;
            }
        }

        private void note(int body) {
            if (noted < bodies.length) {
                bodies[noted] = body;
                noted++;
            }
        }

        /** Answers 0 where the KIND leaves the act to the one above. */
        private static int bodyOf(int kind, int act) {
            switch (10 * kind + act) {
                case 10 * CLOUD + DRIFTS: return 10;
                case 10 * CLOUD + RAINS: return 11;
                case 10 * CLOUD + TASTES: return 12;
                case 10 * CLOUD + TELLS: return 13;
                case 10 * MIST + DRIFTS: return 20;
                case 10 * STORM + RAINS: return 30;
                case 10 * SAINT + TASTES: return 40;
                case 10 * VEIL + TELLS: return 50;
                case 10 * FEUD + RAINS: return 60;
                case 10 * BEACH + TASTES: return 70;
                case 10 * BEACH + TELLS: return 71;
                default: return 0;
            }
        }
    }

    /** A row of numbers of so many bits; of 0 bits: missing. */
    private static final class Sheet {
        int bits = 0;
        int size = 0;
        final int[] numbers = new int[SHEET_ROOM];

        boolean isMissing() {
            return bits == 0;
        }

        /** Asked only with 0 to SHEET_ROOM numbers. */
        void lay(int wide, int n) {
            bits = wide;
            size = n;
            for (int i = 0; i < numbers.length; i++) {
                numbers[i] = 0;
            }
        }

        void write(int i, int v) {
            switch (bits) {
                case 8:
                    numbers[i] = (byte) v;
                    break;
                case 16:
                    numbers[i] = (short) v;
                    break;
                default:
                    numbers[i] = v;
                    break;
            }
        }

        boolean hasRun(int from, int n) {
            return n >= 0 && from >= 0 && n <= size && from <= size - n;
        }
    }
}
