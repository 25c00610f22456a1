/** Choristers have the keys: a city whose doors go by pitch, and the boys who sing them open. */
public final class ChoristerKeys {
    public static final int BAD = -1, STATE = -2, FULL = -3, NONE = -9;
    public static final int NO = -1000000;

    private static final int MOST_PLACES = 8, MOST_DOORS = 8, MOST_BOYS = 5, MOST_LETTERS = 150;
    private static final int FIRST_PLACES = 2, FIRST_STEP = 5;
    private static final int TOP_PITCH = 40, PITCHES = 41;
    private static final int LEAST_AGE = 7, MOST_AGE = 20;
    private static final int BREAK_FALL = 12, THIRD = 4;
    private static final int TOP_COLD = 9, LAST_YEAR = 99, SHUT_YEARS = 20;
    private static final int KNOWN_DEEDS = 10, MOST_HEARD = 6, IMAGES = 2, KINDS = 6;
    private static final int TENTHS = 10, TOP_ODDS_BOYS = 5;
    private static final int FAULT_BASE = -10;

    private final Reader reader;
    private final City told;
    private final City draft;
    private final Scene present;
    private final Past past;
    private final Scene[] images;
    private final boolean[] kept;
    private final Choir choir;
    private final Keyring keyring;
    private final Chances chances;
    private final Heard heard;
    private final Kinds kinds;

    public ChoristerKeys() {
        reader = new Reader();
        told = new City();
        draft = new City();
        present = new Scene();
        past = new Past();
        images = new Scene[IMAGES];
        for (int i = 0; i < IMAGES; i++) {
            images[i] = new Scene();
        }
        kept = new boolean[IMAGES];
        choir = new Choir(told, present);
        keyring = new Keyring(choir);
        chances = new Chances();
        heard = new Heard(choir);
        kinds = new Kinds(choir);
    }

    // ---- the city

    public int type(int letter) {
        if (!within(letter, 0, 255)) {
            return BAD;
        }
        if (reader.length >= MOST_LETTERS) {
            return FULL;
        }
        reader.text[reader.length] = letter;
        reader.length++;
        return reader.length;
    }

    public int clear() {
        int had = reader.length;
        reader.length = 0;
        return had;
    }

    public int city() {
        int items = reader.readInto(draft);
        if (items < 0) {
            return items;
        }
        reader.length = 0;
        told.becomes(draft);
        present.beginsIn(told);
        past.known = 0;
        heard.much = 0;
        for (int i = 0; i < IMAGES; i++) {
            kept[i] = false;
        }
        return items;
    }

    public int door(int d, int what) {
        if (!isDoor(d)) {
            return BAD;
        }
        switch (what) {
            case 0: return told.oneSide[d];
            case 1: return told.otherSide[d];
            case 2: return present.pitch[d];
            case 3: return present.propped >> d & 1;
            case 4: return choir.openers(d);
            default: return BAD;
        }
    }

    public int boy(int b, int what) {
        if (!isBoy(b)) {
            return NO;
        }
        switch (what) {
            case 0: return choir.lowest(b, 0);
            case 1: return choir.highest(b, 0);
            case 2: return present.age[b];
            case 3: return told.breaks[b];
            case 4: return told.home[b];
            case 5: return present.place[b];
            case 6: return present.cold[b];
            case 7: return choir.keys(b, 0);
            case 8: return choir.reach(b, 0);
            case 9: return choir.shutOut(b);
            default: return NO;
        }
    }

    public int now(int what) {
        switch (what) {
            case 0: return present.year;
            case 1: return present.propped;
            case 2: return choir.atHome();
            case 3: return keyring.fewestForAll();
            case 4: return past.known;
            default: return BAD;
        }
    }

    // ---- what is done

    public int goes(int b, int d) {
        if (!isBoy(b) || !isDoor(d)) {
            return BAD;
        }
        int beyond = choir.beyond(b, d);
        if (beyond == NONE || !choir.opens(b, d)) {
            return STATE;
        }
        past.remember(present);
        present.place[b] = beyond;
        return beyond;
    }

    public int colds(int b, int n) {
        if (!isBoy(b) || !within(n, 0, TOP_COLD)) {
            return BAD;
        }
        int had = present.cold[b];
        if (had == n) {
            return STATE;
        }
        past.remember(present);
        present.cold[b] = n;
        return had;
    }

    public int props(int d, int is) {
        if (!isDoor(d) || !within(is, 0, 1)) {
            return BAD;
        }
        if ((present.propped >> d & 1) == is) {
            return STATE;
        }
        past.remember(present);
        present.propped ^= 1 << d;
        return Integer.bitCount(present.propped);
    }

    public int year() {
        if (present.year >= LAST_YEAR) {
            return STATE;
        }
        past.remember(present);
        present.year++;
        int breaking = 0;
        for (int b = 0; b < told.boys; b++) {
            present.age[b]++;
            present.cold[b] = 0;
            if (present.age[b] == told.breaks[b]) {
                breaking++;
            }
        }
        return breaking;
    }

    public int michaelmas() {
        past.remember(present);
        int unopened = 0;
        for (int d = 0; d < told.doors; d++) {
            present.pitch[d] = (present.pitch[d] + told.step) % PITCHES;
            if (choir.openers(d) == 0) {
                unopened++;
            }
        }
        return unopened;
    }

    public int undo() {
        if (past.known == 0) {
            return STATE;
        }
        past.bringBack(present);
        return past.known;
    }

    // ---- ways, posts

    public int way(int b, int place) {
        if (!isBoy(b) || !within(place, 0, told.places - 1)) {
            return BAD;
        }
        return choir.fewestDoors(b, place);
    }

    public int posts(int b) {
        if (b == -1) {
            return keyring.mostPosts();
        }
        return isBoy(b) ? keyring.postOf(b) : BAD;
    }

    public int tune(int set) {
        if (!within(set, 0, (1 << told.boys) - 1)) {
            return BAD;
        }
        return choir.lowestPitchOf(set);
    }

    public int thirds(int a, int b) {
        if (!isBoy(a) || !isBoy(b) || a == b) {
            return BAD;
        }
        return choir.rowsOfThirds(a, b);
    }

    public int odds(int x, int k, int what) {
        if (!within(x, 0, TENTHS) || !within(k, 0, TOP_ODDS_BOYS) || !within(what, 0, 1)) {
            return BAD;
        }
        chances.reckon(choir.unbroken(), x, k);
        return what == 0 ? chances.upper : chances.lower;
    }

    // ---- who went by

    public int hears(int d, int opened) {
        if (!isDoor(d) || !within(opened, 0, 1)) {
            return BAD;
        }
        if (heard.much >= MOST_HEARD) {
            return FULL;
        }
        heard.add(d, opened);
        return heard.much;
    }

    public int forget() {
        int was = heard.much;
        heard.much = 0;
        return was;
    }

    public int who() {
        return heard.suspects();
    }

    public int ask() {
        return heard.bestDoor(heard.suspects());
    }

    // ---- kinds, images

    public int rate(int kind, int b) {
        if (!within(kind, 0, KINDS - 1) || !isBoy(b)) {
            return NO;
        }
        return kinds.rateAs(kind, b);
    }

    public int keep(int image) {
        if (!within(image, 0, IMAGES - 1)) {
            return BAD;
        }
        images[image].becomes(present);
        kept[image] = true;
        return present.year;
    }

    public int back(int image) {
        if (!within(image, 0, IMAGES - 1)) {
            return BAD;
        }
        if (!kept[image]) {
            return STATE;
        }
        present.becomes(images[image]);
        past.known = 0;
        return present.year;
    }

    public int count(int what) {
        switch (what) {
            case 0: return told.places;
            case 1: return told.doors;
            case 2: return told.boys;
            case 3: return told.step;
            case 4: return heard.much;
            case 5: return reader.length;
            default: return BAD;
        }
    }

    public long trace() {
        return kinds.traced;
    }

    private boolean isDoor(int d) {
        return within(d, 0, told.doors - 1);
    }

    private boolean isBoy(int b) {
        return within(b, 0, told.boys - 1);
    }

    private static boolean within(int number, int least, int most) {
        return number >= least && number <= most;
    }

    /** What a text tells. Nothing that is done later changes it. */
    private static final class City {
        int places = FIRST_PLACES;
        int doors = 0;
        int boys = 0;
        int step = FIRST_STEP;
        final int[] oneSide = new int[MOST_DOORS];
        final int[] otherSide = new int[MOST_DOORS];
        final int[] pitch = new int[MOST_DOORS];
        final int[] low = new int[MOST_BOYS];
        final int[] high = new int[MOST_BOYS];
        final int[] age = new int[MOST_BOYS];
        final int[] breaks = new int[MOST_BOYS];
        final int[] home = new int[MOST_BOYS];

        // The rows keep what an earlier text left in them: only the counted part is ever looked at.
        void becomesEmpty() {
            places = FIRST_PLACES;
            doors = 0;
            boys = 0;
            step = FIRST_STEP;
        }

        void becomes(City other) {
            places = other.places;
            doors = other.doors;
            boys = other.boys;
            step = other.step;
            for (int d = 0; d < MOST_DOORS; d++) {
                oneSide[d] = other.oneSide[d];
                otherSide[d] = other.otherSide[d];
                pitch[d] = other.pitch[d];
            }
            for (int b = 0; b < MOST_BOYS; b++) {
                low[b] = other.low[b];
                high[b] = other.high[b];
                age[b] = other.age[b];
                breaks[b] = other.breaks[b];
                home[b] = other.home[b];
            }
        }
    }

    /** THE TEXT, and how it is read, token by token. */
    private static final class Reader {
        // Below every letter, so that a token is either one of these or the letter itself.
        private static final int END = -1, NUMBER = -2, OTHER = -3;
        private static final int BLANK = 32, TOP_NUMBER = 99;

        final int[] text = new int[MOST_LETTERS];
        int length = 0;
        private int at = 0;
        private int start = 0;
        private int token = END;
        private int value = 0;
        private boolean stepTold = false;

        /** How many items there are, or -10 less the fault: then the city is only told in part. */
        int readInto(City city) {
            city.becomesEmpty();
            at = 0;
            stepTold = false;
            for (int items = 0; items <= MOST_LETTERS; items++) {
                readToken();
                if (token == END) {
                    return items;
                }
                if (!readItem(city, items)) {
                    // The reading stops with the token that can't stand there, or with the end.
                    return FAULT_BASE - start;
                }
            }
            return FAULT_BASE - start;
        }

        private boolean readItem(City city, int itemsBefore) {
            switch (token) {
                case 'n': return itemsBefore == 0 && readPlaces(city);
                case 'd': return city.doors < MOST_DOORS && readDoor(city);
                case 'b': return city.boys < MOST_BOYS && readBoy(city);
                case 's': return !stepTold && readStep(city);
                default: return false;
            }
        }

        private boolean readPlaces(City city) {
            if (!readNumber(1, MOST_PLACES)) {
                return false;
            }
            city.places = value;
            return readClose();
        }

        private boolean readDoor(City city) {
            int d = city.doors;
            if (!readNumber(0, city.places - 1)) {
                return false;
            }
            city.oneSide[d] = value;
            if (!readNumber(0, city.places - 1) || value == city.oneSide[d]) {
                return false;
            }
            city.otherSide[d] = value;
            if (!readNumber(0, TOP_PITCH)) {
                return false;
            }
            city.pitch[d] = value;
            city.doors++;
            return readClose();
        }

        private boolean readBoy(City city) {
            int b = city.boys;
            if (!readNumber(0, TOP_PITCH)) {
                return false;
            }
            city.low[b] = value;
            if (!readNumber(city.low[b], TOP_PITCH)) {
                return false;
            }
            city.high[b] = value;
            if (!readNumber(LEAST_AGE, MOST_AGE)) {
                return false;
            }
            city.age[b] = value;
            if (!readNumber(LEAST_AGE, MOST_AGE)) {
                return false;
            }
            city.breaks[b] = value;
            if (!readNumber(0, city.places - 1)) {
                return false;
            }
            city.home[b] = value;
            city.boys++;
            return readClose();
        }

        private boolean readStep(City city) {
            stepTold = true;
            if (!readNumber(0, TOP_PITCH)) {
                return false;
            }
            city.step = value;
            return readClose();
        }

        private boolean readNumber(int least, int most) {
            readToken();
            return token == NUMBER && within(value, least, most);
        }

        private boolean readClose() {
            readToken();
            return token == ';';
        }

        private void readToken() {
            while (at < length && text[at] == BLANK) {
                at++;
            }
            start = at;
            if (at >= length) {
                token = END;
                return;
            }
            int first = text[at];
            at++;
            if (!isDigit(first)) {
                token = isSign(first) ? first : OTHER;
                return;
            }
            value = first - '0';
            boolean zeroAhead = false;
            while (at < length && isDigit(text[at])) {
                zeroAhead = zeroAhead || value == 0;
                // Held just above what a number may be, however many digits there are.
                value = Math.min(10 * value + text[at] - '0', TOP_NUMBER + 1);
                at++;
            }
            token = zeroAhead || value > TOP_NUMBER ? OTHER : NUMBER;
        }

        private static boolean isDigit(int letter) {
            return letter >= '0' && letter <= '9';
        }

        private static boolean isSign(int letter) {
            return letter == 'n' || letter == 'd' || letter == 'b' || letter == 's' || letter == ';';
        }
    }

    /** All that deeds change: as it is now, as it was, or as an image has it. */
    private static final class Scene {
        final int[] place = new int[MOST_BOYS];
        final int[] age = new int[MOST_BOYS];
        final int[] cold = new int[MOST_BOYS];
        final int[] pitch = new int[MOST_DOORS];
        int propped = 0;
        int year = 0;

        void beginsIn(City city) {
            for (int b = 0; b < MOST_BOYS; b++) {
                place[b] = city.home[b];
                age[b] = city.age[b];
                cold[b] = 0;
            }
            for (int d = 0; d < MOST_DOORS; d++) {
                pitch[d] = city.pitch[d];
            }
            propped = 0;
            year = 0;
        }

        void becomes(Scene other) {
            for (int b = 0; b < MOST_BOYS; b++) {
                place[b] = other.place[b];
                age[b] = other.age[b];
                cold[b] = other.cold[b];
            }
            for (int d = 0; d < MOST_DOORS; d++) {
                pitch[d] = other.pitch[d];
            }
            propped = other.propped;
            year = other.year;
        }
    }

    /** How it was ahead of each of the latest deeds: a ring, in which the oldest gives way. */
    private static final class Past {
        private final Scene[] scenes;
        private int next = 0;
        int known = 0;

        Past() {
            scenes = new Scene[KNOWN_DEEDS];
            for (int i = 0; i < KNOWN_DEEDS; i++) {
                scenes[i] = new Scene();
            }
        }

        void remember(Scene scene) {
            scenes[next].becomes(scene);
            next = (next + 1) % KNOWN_DEEDS;
            known = Math.min(known + 1, KNOWN_DEEDS);
        }

        void bringBack(Scene scene) {
            if (known == 0) {
                return;
            }
            next = (next + KNOWN_DEEDS - 1) % KNOWN_DEEDS;
            known--;
            scene.becomes(scenes[next]);
        }
    }

    /**
     * What the boys sing, which doors they open by it, and where they come.
     * "years" is how many years from now are meant, if only years go by: 0 is now.
     */
    private static final class Choir {
        final City city;
        final Scene scene;

        Choir(City city, Scene scene) {
            this.city = city;
            this.scene = scene;
        }

        boolean isBroken(int b, int years) {
            return scene.age[b] + years >= city.breaks[b];
        }

        int unbroken() {
            int number = 0;
            for (int b = 0; b < city.boys; b++) {
                if (!isBroken(b, 0)) {
                    number++;
                }
            }
            return number;
        }

        int lowest(int b, int years) {
            return city.low[b] - (isBroken(b, years) ? BREAK_FALL : 0);
        }

        int highest(int b, int years) {
            int cold = years == 0 ? scene.cold[b] : 0;
            return city.high[b] - (isBroken(b, years) ? BREAK_FALL : 0) - cold;
        }

        boolean sings(int b, int pitch) {
            return within(pitch, lowest(b, 0), highest(b, 0));
        }

        int keys(int b, int years) {
            int low = lowest(b, years);
            int high = highest(b, years);
            int keys = scene.propped;
            for (int d = 0; d < city.doors; d++) {
                if (within(scene.pitch[d], low, high)) {
                    keys |= 1 << d;
                }
            }
            return keys;
        }

        boolean opens(int b, int d) {
            return (scene.propped >> d & 1) == 1 || sings(b, scene.pitch[d]);
        }

        int openers(int d) {
            int openers = 0;
            for (int b = 0; b < city.boys; b++) {
                if (opens(b, d)) {
                    openers |= 1 << b;
                }
            }
            return openers;
        }

        int atHome() {
            int home = 0;
            for (int b = 0; b < city.boys; b++) {
                if (scene.place[b] == city.home[b]) {
                    home |= 1 << b;
                }
            }
            return home;
        }

        /** The place behind a door, from where the boy is; NONE, if the door is not there. */
        int beyond(int b, int d) {
            if (city.oneSide[d] == scene.place[b]) {
                return city.otherSide[d];
            }
            return city.otherSide[d] == scene.place[b] ? city.oneSide[d] : NONE;
        }

        /** The places that are in the set, or one door away from it. */
        private int spread(int set, int keys) {
            int wider = set;
            for (int d = 0; d < city.doors; d++) {
                int sides = 1 << city.oneSide[d] | 1 << city.otherSide[d];
                if ((keys >> d & 1) == 1 && (set & sides) != 0) {
                    wider |= sides;
                }
            }
            return wider;
        }

        int reach(int b, int years) {
            int keys = keys(b, years);
            int set = 1 << scene.place[b];
            for (int doors = 1; doors < city.places; doors++) {
                set = spread(set, keys);
            }
            return set;
        }

        int fewestDoors(int b, int place) {
            int keys = keys(b, 0);
            int set = 1 << scene.place[b];
            for (int doors = 0; doors < city.places; doors++) {
                if ((set >> place & 1) == 1) {
                    return doors;
                }
                set = spread(set, keys);
            }
            return NONE;
        }

        int shutOut(int b) {
            for (int years = 0; years <= SHUT_YEARS; years++) {
                if ((reach(b, years) >> city.home[b] & 1) == 0) {
                    return years;
                }
            }
            return NONE;
        }

        int lowestPitchOf(int set) {
            for (int pitch = 0; pitch <= TOP_PITCH; pitch++) {
                if (singersOf(pitch) == set) {
                    return pitch;
                }
            }
            return NONE;
        }

        private int singersOf(int pitch) {
            int singers = 0;
            for (int b = 0; b < city.boys; b++) {
                if (sings(b, pitch)) {
                    singers |= 1 << b;
                }
            }
            return singers;
        }

        int rowsOfThirds(int a, int b) {
            int rows = 0;
            for (int d = 0; d < city.doors; d++) {
                for (int e = 0; e < city.doors; e++) {
                    // Pitches that are apart are never those of one door.
                    boolean apart = Math.abs(scene.pitch[d] - scene.pitch[e]) == THIRD;
                    if (apart && sings(a, scene.pitch[d]) && sings(b, scene.pitch[e])) {
                        rows++;
                    }
                }
            }
            return rows;
        }
    }

    /** Which doors sets of boys open together: who is needed for all, who stands where. */
    private static final class Keyring {
        private final Choir choir;
        private final int[] keysOfSet = new int[1 << MOST_BOYS];

        Keyring(Choir choir) {
            this.choir = choir;
        }

        // No boys open no doors: keysOfSet[0] is 0 from the first and stays so.
        private void takeKeys() {
            for (int b = 0; b < choir.city.boys; b++) {
                int keys = choir.keys(b, 0);
                int bit = 1 << b;
                for (int set = 0; set < bit; set++) {
                    keysOfSet[bit | set] = keysOfSet[set] | keys;
                }
            }
        }

        private int allBoys() {
            return (1 << choir.city.boys) - 1;
        }

        private int allDoors() {
            return (1 << choir.city.doors) - 1;
        }

        int fewestForAll() {
            takeKeys();
            int boys = allBoys();
            int doors = allDoors();
            int best = NONE;
            for (int set = 0; set <= boys; set++) {
                boolean fewer = best == NONE || Integer.bitCount(set) < Integer.bitCount(best);
                if (fewer && keysOfSet[set] == doors) {
                    best = set;
                }
            }
            return best;
        }

        int mostPosts() {
            takeKeys();
            return mostOf(allBoys(), allDoors());
        }

        int postOf(int boy) {
            takeKeys();
            int later = allBoys();
            int free = allDoors();
            int post = NONE;
            for (int b = 0; b <= boy; b++) {
                int most = mostOf(later, free);
                later &= ~(1 << b);
                post = lowestPost(keysOfSet[1 << b] & free, later, free, most);
                if (post != NONE) {
                    free &= ~(1 << post);
                }
            }
            return post;
        }

        /** The lowest of the open doors with which the later boys still bring it to the most. */
        private int lowestPost(int open, int later, int free, int most) {
            for (int d = 0; d < choir.city.doors; d++) {
                int bit = 1 << d;
                if ((open & bit) != 0 && 1 + mostOf(later, free & ~bit) == most) {
                    return d;
                }
            }
            return NONE;
        }

        /**
         * The most boys of a set who can stand at free doors. Some part of the boys has the fewest
         * doors for its number; by the theorem of Koenig and Ore, just what is missing there is
         * missing in all: so no search through the ways to stand is needed.
         */
        private int mostOf(int boys, int free) {
            int most = Integer.bitCount(boys);
            for (int part = 0; part <= boys; part++) {
                if ((part & ~boys) == 0) {
                    int others = Integer.bitCount(boys & ~part);
                    most = Math.min(most, others + Integer.bitCount(keysOfSet[part] & free));
                }
            }
            return most;
        }
    }

    /** A fraction: the odds that of some boys a few at most take a cold. */
    private static final class Chances {
        private final int[] weights = new int[MOST_BOYS + 1];
        int upper = 0;
        int lower = 1;

        void reckon(int boys, int tenths, int atMost) {
            weighNumbers(boys, tenths);
            upper = 0;
            lower = 1;
            for (int colds = 0; colds <= boys; colds++) {
                if (colds <= atMost) {
                    upper += weights[colds];
                }
            }
            for (int b = 0; b < boys; b++) {
                lower *= TENTHS;
            }
            int common = commonDivisor(lower, upper);
            if (common > 1) {
                upper /= common;
                lower /= common;
            }
        }

        /** In how many of 10 to the power of "boys" cases each number of boys takes a cold. */
        private void weighNumbers(int boys, int tenths) {
            for (int colds = 0; colds <= MOST_BOYS; colds++) {
                weights[colds] = colds == 0 ? 1 : 0;
            }
            for (int b = 0; b < boys; b++) {
                for (int colds = boys; colds > 0; colds--) {
                    weights[colds] = weights[colds] * (TENTHS - tenths) + weights[colds - 1] * tenths;
                }
                weights[0] *= TENTHS - tenths;
            }
        }

        private static int commonDivisor(int a, int b) {
            int big = a;
            int small = b;
            // Euclid's steps over numbers of 17 bits are far fewer than 64.
            for (int steps = 0; steps < 64 && small != 0; steps++) {
                int left = big % small;
                big = small;
                small = left;
            }
            return big;
        }
    }

    /** What was heard of an unknown boy. */
    private static final class Heard {
        private final Choir choir;
        private final int[] doors = new int[MOST_HEARD];
        private final int[] opened = new int[MOST_HEARD];
        int much = 0;

        Heard(Choir choir) {
            this.choir = choir;
        }

        void add(int d, int wasOpened) {
            if (much < MOST_HEARD) {
                doors[much] = d;
                opened[much] = wasOpened;
                much++;
            }
        }

        int suspects() {
            int suspects = (1 << choir.city.boys) - 1;
            for (int i = 0; i < much; i++) {
                int openers = choir.openers(doors[i]);
                suspects &= opened[i] == 1 ? openers : ~openers;
            }
            return suspects;
        }

        /** The door that parts the suspects best. */
        int bestDoor(int suspects) {
            int number = Integer.bitCount(suspects);
            if (number <= 1) {
                return NONE;
            }
            int best = NONE;
            int bestLeft = number + 1;
            for (int d = 0; d < choir.city.doors; d++) {
                int openers = Integer.bitCount(suspects & choir.openers(d));
                int left = Math.max(openers, number - openers);
                if (left < bestLeft) {
                    best = d;
                    bestLeft = left;
                }
            }
            return best;
        }
    }

    /** The rate of a boy as of each kind, and the trace of the bodies that were asked. */
    private static final class Kinds {
        private final Choir choir;
        long traced = 0;

        Kinds(Choir choir) {
            this.choir = choir;
        }

        int rateAs(int kind, int b) {
            switch (kind) {
                case 0: return asBoy(b);
                case 1: return asTreble(b);
                case 2: return asAlto(b);
                case 3: return asSoloist(b);
                case 4: return asTwin(b);
                case 5: return asBass(b);
                default: return NO;
            }
        }

        private int asBoy(int b) {
            traced += 1;
            return choir.scene.age[b];
        }

        private int asTreble(int b) {
            traced += 10;
            return asBoy(b) + choir.highest(b, 0);
        }

        private int asAlto(int b) {
            traced += 100;
            return asBoy(b) - Integer.bitCount(choir.keys(b, 0));
        }

        private int asSoloist(int b) {
            traced += 1000;
            // Asked once and doubled: each body leaves its trace once.
            return 2 * asTreble(b);
        }

        private int asTwin(int b) {
            traced += 10000;
            return asAlto(b) + b;
        }

        private int asBass(int b) {
            traced += 100000;
            return asBoy(b) + choir.scene.place[b];
        }
    }
}
