import java.util.Arrays;

/** A laurelled town whose people go about one another's doors on rings of twelve yards. */
public final class WreathOrbits {
    public static final int BAD = -1, NO = -2, FULL = -3, NONE = -4;

    private static final int MOST_PEOPLE = 7;
    private static final int DOORS = 6;
    private static final int WIDEST = 9;
    private static final int YARDS = 12;
    private static final int PACES = 12;
    private static final int KINDS = 4;
    private static final int LAST_DAY = 999;
    private static final int FAR = 60;
    private static final int SOON = 24;
    private static final int LOOKED_AT = 12;
    private static final int MOST_UNDONE = 8;
    private static final int MOST_KEPT = 2;

    private static final int MEETS = 2;
    private static final int PASSES = 1;
    private static final int NEITHER = 0;

    /** The town that stands at first: kind, door, width, yard and pace of each person. */
    private static final int[] FIRST_TOWN = {
        0, 0, 3, 0, 1,
        1, 0, 3, 6, 2,
        2, 0, 3, 4, 5,
        3, 1, 2, 9, 1,
        0, 1, 2, 3, 7,
        2, 1, 5, 3, 1,
        1, 4, 1, 0, 0
    };

    private final Text text = new Text();
    private final Town town = new Town();
    /** A town to try things on, so that questions change nothing. */
    private final Town trial = new Town();
    private final Pile acts = new Pile(MOST_UNDONE);
    private final Pile shelf = new Pile(MOST_KEPT);
    private final Notes sights = new Notes();
    private final Notes tales = new Notes();
    private final Tints tints = new Tints();
    private final Chance chance = new Chance();
    /** For each day that is looked at, the yards of the rings then, as bits. */
    private final int[] yardsOnDay = new int[LOOKED_AT + 1];

    public WreathOrbits() {
        for (int at = 0; at + 4 < FIRST_TOWN.length; at += 5) {
            town.settle(FIRST_TOWN[at], FIRST_TOWN[at + 1], FIRST_TOWN[at + 2],
                    FIRST_TOWN[at + 3], FIRST_TOWN[at + 4]);
        }
    }

    // ---- towns

    public int write(int letter) {
        if (outside(letter, 32, 126)) {
            return BAD;
        }
        return text.append((char) letter) ? text.length() : FULL;
    }

    public int wipe() {
        return text.empty();
    }

    public int fault() {
        return text.readInto(trial);
    }

    public int lay() {
        if (text.readInto(trial) != NONE || trial.size() == 0) {
            return NO;
        }
        town.become(trial);
        sights.empty();
        tales.empty();
        acts.empty();
        shelf.empty();
        return town.size();
    }

    public int person(int p, int what) {
        if (noPerson(p) || outside(what, 0, 4)) {
            return BAD;
        }
        switch (what) {
            case 0: return town.kindOf(p);
            case 1: return town.doorOf(p);
            case 2: return town.widthOf(p);
            case 3: return town.yardOf(p);
            default: return town.paceOf(p);
        }
    }

    public int near(int p, int q) {
        return noPair(p, q) ? BAD : town.between(p, q);
    }

    public int about(int d) {
        return noDoor(d) ? BAD : town.goersAbout(d);
    }

    // ---- acts

    public int pass(int n) {
        if (outside(n, 1, 20)) {
            return BAD;
        }
        if (town.day() + n > LAST_DAY) {
            return NO;
        }
        acts.put(town);
        return town.letDaysGoBy(n);
    }

    public int weave(int p, int d, int w) {
        if (noPerson(p) || noDoor(d) || outside(w, 1, WIDEST)) {
            return BAD;
        }
        if (town.doorOf(p) == d && town.widthOf(p) == w) {
            return NO;
        }
        acts.put(town);
        town.hangWreath(p, d, w);
        return Integer.bitCount(town.goersAbout(d));
    }

    public int off(int p) {
        if (noPerson(p)) {
            return BAD;
        }
        int door = town.doorOf(p);
        if (door == NONE) {
            return NO;
        }
        acts.put(town);
        town.hangWreath(p, NONE, NONE);
        return door;
    }

    public int pace(int p, int s) {
        if (noPerson(p) || outside(s, 0, PACES - 1)) {
            return BAD;
        }
        int before = town.paceOf(p);
        if (before == s) {
            return NO;
        }
        acts.put(town);
        town.setPace(p, s);
        return before;
    }

    public int undo() {
        return acts.takeInto(town) ? acts.size() : NO;
    }

    // ---- what comes, what is best

    public int behind(int n, int p) {
        if (outside(n, 0, FAR) || noPerson(p)) {
            return BAD;
        }
        return town.yardBehind(n, p, town.kindOf(p), town.paceOf(p));
    }

    public int first(int p, int q) {
        if (noPair(p, q)) {
            return BAD;
        }
        trial.become(town);
        for (int n = 0; n <= FAR; n++) {
            if (trial.between(p, q) == MEETS) {
                return n;
            }
            trial.goRound();
        }
        return NONE;
    }

    public int all(int n) {
        if (outside(n, 1, FAR)) {
            return BAD;
        }
        trial.become(town);
        return trial.letDaysGoBy(n);
    }

    public int paces(int p, int q, int n) {
        if (noPair(p, q) || outside(n, 1, SOON)) {
            return BAD;
        }
        if (!town.shareWreath(p, q)) {
            return 0;
        }
        int goal = town.yardBehind(n, q, town.kindOf(q), town.paceOf(q));
        int bits = 0;
        for (int s = 0; s < PACES; s++) {
            if (town.yardBehind(n, p, town.kindOf(p), s) == goal) {
                bits |= 1 << s;
            }
        }
        return bits;
    }

    public int shy(int p) {
        if (noPerson(p)) {
            return BAD;
        }
        if (town.doorOf(p) == NONE) {
            return NO;
        }
        int taken = widthsMet(p);
        for (int w = 1; w <= WIDEST; w++) {
            if ((taken & (1 << w)) == 0) {
                return w;
            }
        }
        return NONE;
    }

    public int spread(int d, int p) {
        if (noDoor(d) || outside(p, -1, town.size() - 1)) {
            return BAD;
        }
        trial.become(town);
        int fewest = tints.choose(trial, d);
        return p == -1 ? fewest : tints.tintOf(p);
    }

    public int dear(int what) {
        if (outside(what, 0, 1)) {
            return BAD;
        }
        int best = 0;
        int most = 0;
        for (int d = 0; d < DOORS; d++) {
            int goers = Integer.bitCount(town.goersAbout(d));
            if (goers > most) {
                best = d;
                most = goers;
            }
        }
        return what == 0 ? best : most;
    }

    // ---- what was seen, told

    public int seen(int p, int n, int y) {
        if (noPerson(p) || outside(n, 0, SOON) || outside(y, 0, YARDS - 1)) {
            return BAD;
        }
        return sights.note(p, n, y) ? sights.size() : FULL;
    }

    public int kinds(int p) {
        if (noPerson(p)) {
            return BAD;
        }
        int bits = 0;
        for (int k = 0; k < KINDS; k++) {
            if (sights.fitPerson(town, p, k, town.paceOf(p))) {
                bits |= 1 << k;
            }
        }
        return bits;
    }

    public int speeds(int p) {
        if (noPerson(p)) {
            return BAD;
        }
        int bits = 0;
        for (int s = 0; s < PACES; s++) {
            if (sights.fitPerson(town, p, town.kindOf(p), s)) {
                bits |= 1 << s;
            }
        }
        return bits;
    }

    public int told(int n, int y) {
        if (outside(n, 0, SOON) || outside(y, 0, YARDS - 1)) {
            return BAD;
        }
        return tales.note(NONE, n, y) ? tales.size() : FULL;
    }

    public int rings(int what) {
        if (outside(what, 0, 1)) {
            return BAD;
        }
        int many = 0;
        int lowest = NONE;
        for (int ring = 0; ring < YARDS * PACES; ring++) {
            if (tales.fitRing(ring / PACES, ring % PACES)) {
                many++;
                if (lowest == NONE) {
                    lowest = ring;
                }
            }
        }
        return what == 0 ? many : lowest;
    }

    public int look(int what) {
        if (outside(what, 0, 1)) {
            return BAD;
        }
        markYardsOfRings();
        int best = 0;
        int most = 0;
        for (int n = 0; n <= LOOKED_AT; n++) {
            int yards = Integer.bitCount(yardsOnDay[n]);
            if (yards > most) {
                best = n;
                most = yards;
            }
        }
        return what == 0 ? best : most;
    }

    public int forget() {
        return sights.empty() + tales.empty();
    }

    // ---- chances, seasons

    public int likely(int p, int q, int n, int x, int part) {
        if (noPair(p, q) || outside(n, 0, 7) || outside(x, 0, 10) || outside(part, 0, 1)) {
            return BAD;
        }
        int above = 0;
        if (town.shareWreath(p, q)) {
            chance.follow(town, p, n, x);
            above = chance.weightAt(town.yardBehind(n, q, town.kindOf(q), town.paceOf(q)));
        }
        int below = powerOfTen(n);
        // The common divisor is at least 1, as below is; max only shows that nothing divides by 0.
        int common = Math.max(1, commonDivisor(above, below));
        return part == 0 ? above / common : below / common;
    }

    public int season(int z, int n, int what) {
        if (outside(z, 0, 9999) || outside(n, 1, FAR) || outside(what, 0, 2)) {
            return BAD;
        }
        trial.become(town);
        int meetings = 0;
        for (int i = 0; i < n; i++) {
            trial.stir(draw(z, i));
            meetings += trial.letDaysGoBy(1);
        }
        switch (what) {
            case 0: return meetings;
            case 1: return trial.goers();
            default: return trial.yardsAdded();
        }
    }

    // ---- kept

    public int keep() {
        if (shelf.isFull()) {
            return FULL;
        }
        shelf.put(town);
        return shelf.size();
    }

    public int back() {
        if (!shelf.takeInto(town)) {
            return NO;
        }
        acts.empty();
        return shelf.size();
    }

    public int count(int what) {
        switch (what) {
            case 0: return town.size();
            case 1: return town.day();
            case 2: return town.goers();
            case 3: return town.pairs(MEETS);
            case 4: return town.pairs(PASSES);
            case 5: return town.meetings();
            case 6: return sights.size();
            case 7: return tales.size();
            case 8: return acts.size();
            case 9: return shelf.size();
            case 10: return text.length();
            default: return BAD;
        }
    }

    // ---- helpers

    private static boolean outside(int number, int least, int most) {
        return number < least || number > most;
    }

    private static boolean noDoor(int d) {
        return outside(d, 0, DOORS - 1);
    }

    private boolean noPerson(int p) {
        return outside(p, 0, town.size() - 1);
    }

    private boolean noPair(int p, int q) {
        return noPerson(p) || noPerson(q) || p == q;
    }

    /** The widths, as bits, of those at a person's door who come into its yard soon. */
    private int widthsMet(int p) {
        trial.become(town);
        int bits = 0;
        for (int n = 0; n <= SOON; n++) {
            for (int q = 0; q < trial.size(); q++) {
                if (q != p && trial.between(p, q) != NEITHER) {
                    bits |= 1 << trial.widthOf(q);
                }
            }
            trial.goRound();
        }
        return bits;
    }

    private void markYardsOfRings() {
        Arrays.fill(yardsOnDay, 0);
        for (int ring = 0; ring < YARDS * PACES; ring++) {
            int yard = ring / PACES;
            int pace = ring % PACES;
            if (tales.fitRing(yard, pace)) {
                for (int n = 0; n <= LOOKED_AT; n++) {
                    yardsOnDay[n] |= 1 << (yard + n * pace) % YARDS;
                }
            }
        }
    }

    /** The draw of a season's day; x grows to some 80 millions, so its square needs a long. */
    private static int draw(int z, int day) {
        long x = 7919L * z + 6151L * day + 1;
        return (int) (x * x % 65521 / 2);
    }

    private static int powerOfTen(int n) {
        int power = 1;
        for (int i = 0; i < n; i++) {
            power *= 10;
        }
        return power;
    }

    private static int commonDivisor(int a, int b) {
        int high = a;
        int low = b;
        // Euclid's way takes fewer than 50 steps for any two ints.
        for (int i = 0; i < 100 && low != 0; i++) {
            int left = high % low;
            high = low;
            low = left;
        }
        return high;
    }

    /** The letters that have been written, and how they are read as people. */
    private static final class Text {
        private static final int MOST_LETTERS = 200;
        private static final int NUMBERS = 5;
        /** Bounds of kind, door, width, yard and pace. */
        private static final int[] LEAST = {0, 0, 1, 0, 0};
        private static final int[] MOST = {3, 5, 9, 11, 11};

        private final char[] letters = new char[MOST_LETTERS];
        private final int[] numbers = new int[NUMBERS];
        private int length = 0;

        int length() {
            return length;
        }

        boolean append(char letter) {
            if (length >= MOST_LETTERS) {
                return false;
            }
            letters[length] = letter;
            length++;
            return true;
        }

        int empty() {
            int was = length;
            length = 0;
            return was;
        }

        /** Settles the people of the text in a draft, up to the first fault: its place, or NONE. */
        int readInto(Town draft) {
            draft.empty();
            int at = 0;
            for (int items = 0; items <= MOST_PEOPLE && at < length; items++) {
                int next = items < MOST_PEOPLE ? readItem(at) : NONE;
                if (next == NONE) {
                    return at;
                }
                draft.settle(numbers[0], numbers[1], numbers[2], numbers[3], numbers[4]);
                at = next;
            }
            return NONE;
        }

        /** Reads an item into the numbers: the place behind it, or NONE if it is at fault. */
        private int readItem(int start) {
            if (letterAt(start) != 'p') {
                return NONE;
            }
            int at = start + 1;
            for (int i = 0; i < NUMBERS; i++) {
                int figures = figuresAt(at);
                if (figures == 0) {
                    return NONE;
                }
                int number = numberAt(at, figures);
                char end = i < NUMBERS - 1 ? ',' : ';';
                if (outside(number, LEAST[i], MOST[i]) || letterAt(at + figures) != end) {
                    return NONE;
                }
                numbers[i] = number;
                at += figures + 1;
            }
            return at;
        }

        /** How many figures a number has here: two at most. */
        private int figuresAt(int at) {
            if (!isFigure(letterAt(at))) {
                return 0;
            }
            return isFigure(letterAt(at + 1)) ? 2 : 1;
        }

        private int numberAt(int at, int figures) {
            int number = 0;
            for (int i = 0; i < figures; i++) {
                number = 10 * number + (letterAt(at + i) - '0');
            }
            return number;
        }

        private static boolean isFigure(char letter) {
            return letter >= '0' && letter <= '9';
        }

        /** A letter that none can write stands behind the last one. */
        private char letterAt(int at) {
            return outside(at, 0, length - 1) ? (char) 0 : letters[at];
        }
    }

    /** People, the day, and the meetings so far; one that is broken off has NONE as door and width. */
    private static final class Town {
        private static final int MOURNING = 1;
        private static final int BURR = 2;
        private static final int DROPPING_IN = 3;

        private final int[] kind = new int[MOST_PEOPLE];
        private final int[] door = new int[MOST_PEOPLE];
        private final int[] width = new int[MOST_PEOPLE];
        private final int[] yard = new int[MOST_PEOPLE];
        private final int[] pace = new int[MOST_PEOPLE];
        private int size = 0;
        private int day = 0;
        private int meetings = 0;

        int size() {
            return size;
        }

        int day() {
            return day;
        }

        int meetings() {
            return meetings;
        }

        int kindOf(int p) {
            return kind[p];
        }

        int doorOf(int p) {
            return door[p];
        }

        int widthOf(int p) {
            return width[p];
        }

        int yardOf(int p) {
            return yard[p];
        }

        int paceOf(int p) {
            return pace[p];
        }

        void empty() {
            size = 0;
            day = 0;
            meetings = 0;
        }

        void settle(int k, int d, int w, int y, int s) {
            if (size < MOST_PEOPLE) {
                kind[size] = k;
                door[size] = d;
                width[size] = w;
                yard[size] = y;
                pace[size] = s;
                size++;
            }
        }

        void become(Town other) {
            System.arraycopy(other.kind, 0, kind, 0, MOST_PEOPLE);
            System.arraycopy(other.door, 0, door, 0, MOST_PEOPLE);
            System.arraycopy(other.width, 0, width, 0, MOST_PEOPLE);
            System.arraycopy(other.yard, 0, yard, 0, MOST_PEOPLE);
            System.arraycopy(other.pace, 0, pace, 0, MOST_PEOPLE);
            size = other.size;
            day = other.day;
            meetings = other.meetings;
        }

        void hangWreath(int p, int d, int w) {
            door[p] = d;
            width[p] = w;
        }

        void setPace(int p, int s) {
            pace[p] = s;
        }

        /** Who goes about a door, as bits. */
        int goersAbout(int d) {
            int bits = 0;
            for (int p = 0; p < size; p++) {
                if (door[p] == d) {
                    bits |= 1 << p;
                }
            }
            return bits;
        }

        int goers() {
            return size - Integer.bitCount(goersAbout(NONE));
        }

        int yardsAdded() {
            int sum = 0;
            for (int p = 0; p < size; p++) {
                sum += yard[p];
            }
            return sum;
        }

        boolean shareWreath(int p, int q) {
            return door[p] != NONE && door[p] == door[q] && width[p] == width[q];
        }

        /** MEETS, PASSES or NEITHER. */
        int between(int p, int q) {
            if (door[p] == NONE || door[p] != door[q] || yard[p] != yard[q]) {
                return NEITHER;
            }
            return width[p] == width[q] ? MEETS : PASSES;
        }

        /** How many twos are so now. */
        int pairs(int how) {
            int many = 0;
            for (int p = 0; p < size; p++) {
                for (int q = p + 1; q < size; q++) {
                    if (between(p, q) == how) {
                        many++;
                    }
                }
            }
            return many;
        }

        /** How many meetings there are on the next n days, which go by. */
        int letDaysGoBy(int n) {
            int met = 0;
            for (int i = 0; i < n; i++) {
                goRound();
                met += pairs(MEETS);
            }
            meetings += met;
            return met;
        }

        void goRound() {
            for (int p = 0; p < size; p++) {
                yard[p] = yardBehind(1, p, kind[p], pace[p]);
            }
            day++;
        }

        /** Where a person would be behind n days, were it of that kind and that pace. */
        int yardBehind(int n, int p, int k, int s) {
            int at = yard[p];
            if (door[p] == NONE) {
                return at;
            }
            for (int i = 0; i < n; i++) {
                at = (at + yardsOn(day + i, k, s)) % YARDS;
            }
            return at;
        }

        /** How many yards one of that kind and that pace goes on a day. */
        static int yardsOn(int someDay, int k, int s) {
            switch (k) {
                case MOURNING: return someDay % 2 == 0 ? s : 0;
                case BURR: return 2 * s;
                case DROPPING_IN: return someDay % 3 == 0 ? s + 1 : s;
                default: return s;
            }
        }

        /** What a season's draw does ahead of a day. */
        void stir(int drawn) {
            if (size < 1) {
                return;
            }
            int p = drawn % size;
            switch (drawn / 8 % 6) {
                case 0: hangWreath(p, drawn / 64 % DOORS, drawn / 512 % WIDEST + 1); break;
                case 1: hangWreath(p, NONE, NONE); break;
                case 2: setPace(p, drawn / 64 % PACES); break;
                default: break;
            }
        }
    }

    /** Towns as they were, the latest on top. */
    private static final class Pile {
        private final Town[] towns;
        private int size = 0;

        Pile(int room) {
            towns = new Town[Math.max(1, room)];
            for (int i = 0; i < towns.length; i++) {
                towns[i] = new Town();
            }
        }

        int size() {
            return size;
        }

        boolean isFull() {
            return size >= towns.length;
        }

        void empty() {
            size = 0;
        }

        /** Puts a town on top; the lowest one makes room if there is none. */
        void put(Town town) {
            if (isFull()) {
                dropLowest();
            }
            towns[size].become(town);
            size++;
        }

        private void dropLowest() {
            Town lowest = towns[0];
            for (int i = 1; i < towns.length; i++) {
                towns[i - 1] = towns[i];
            }
            // It is used again: no call makes a town.
            towns[towns.length - 1] = lowest;
            size = towns.length - 1;
        }

        /** Makes a town what lies on top, and takes that away; false if nothing lies there. */
        boolean takeInto(Town town) {
            if (size < 1) {
                return false;
            }
            size--;
            town.become(towns[size]);
            return true;
        }
    }

    /** What was seen or told: that somebody is in a yard behind some days. */
    private static final class Notes {
        private static final int MOST_NOTES = 6;

        private final int[] whom = new int[MOST_NOTES];
        private final int[] days = new int[MOST_NOTES];
        private final int[] yards = new int[MOST_NOTES];
        private int size = 0;

        int size() {
            return size;
        }

        int empty() {
            int was = size;
            size = 0;
            return was;
        }

        boolean note(int p, int n, int y) {
            if (size >= MOST_NOTES) {
                return false;
            }
            whom[size] = p;
            days[size] = n;
            yards[size] = y;
            size++;
            return true;
        }

        /** Whether all notes of a person would be so, were it of that kind and that pace. */
        boolean fitPerson(Town town, int p, int k, int s) {
            for (int i = 0; i < size; i++) {
                if (whom[i] == p && town.yardBehind(days[i], p, k, s) != yards[i]) {
                    return false;
                }
            }
            return true;
        }

        /** Whether all notes would be so of a plain one who is in that yard now. */
        boolean fitRing(int yard, int pace) {
            for (int i = 0; i < size; i++) {
                if ((yard + days[i] * pace) % YARDS != yards[i]) {
                    return false;
                }
            }
            return true;
        }
    }

    /** Widths for those about one door, such that no two in one yard are as wide. */
    private static final class Tints {
        /** For each person, those ahead of it who come into its yard, as bits. */
        private final int[] clashes = new int[MOST_PEOPLE];
        private final int[] tint = new int[MOST_PEOPLE];
        private int people = 0;
        private int members = 0;

        int tintOf(int p) {
            return tint[p];
        }

        /** Finds the first of the ways with the fewest tints: how many they are. The town goes round. */
        int choose(Town town, int d) {
            people = town.size();
            members = town.goersAbout(d);
            Arrays.fill(clashes, 0);
            for (int n = 0; n <= SOON; n++) {
                markClashes(town);
                town.goRound();
            }
            for (int limit = 0; limit < MOST_PEOPLE; limit++) {
                if (paint(this, 0, 0, limit)) {
                    return limit;
                }
            }
            // A tint for each person is always enough.
            paint(this, 0, 0, MOST_PEOPLE);
            return MOST_PEOPLE;
        }

        private void markClashes(Town town) {
            for (int p = 0; p < people; p++) {
                for (int q = 0; q < p; q++) {
                    if (town.between(p, q) != NEITHER) {
                        clashes[p] |= 1 << q;
                    }
                }
            }
        }

        /** Paints person p and those behind it with tints up to a limit, no deeper than there are people. */
        private static boolean paint(Tints way, int p, int used, int limit) {
            if (p >= way.people) {
                return true;
            }
            if ((way.members & (1 << p)) == 0) {
                way.tint[p] = NONE;
                return paint(way, p + 1, used, limit);
            }
            // A tint that is new bears the next number, so one above those used is enough.
            int highest = Math.min(used + 1, limit);
            for (int t = 1; t <= highest; t++) {
                if (way.isFree(p, t)) {
                    way.tint[p] = t;
                    if (paint(way, p + 1, Math.max(used, t), limit)) {
                        return true;
                    }
                }
            }
            return false;
        }

        /** Whether nobody painted ahead of p who comes into its yard bears that tint. */
        private boolean isFree(int p, int t) {
            for (int q = 0; q < p; q++) {
                if (tint[q] == t && (clashes[p] & (1 << q)) != 0) {
                    return false;
                }
            }
            return true;
        }
    }

    /** Where one may be who rests now and then: weights of yards, a power of ten together. */
    private static final class Chance {
        private int[] weights = new int[YARDS];
        private int[] next = new int[YARDS];

        int weightAt(int yard) {
            return weights[yard];
        }

        /** Follows a person, who rests on each day by x of ten, for n days. */
        void follow(Town town, int p, int n, int x) {
            Arrays.fill(weights, 0);
            weights[town.yardOf(p)] = 1;
            for (int i = 0; i < n; i++) {
                goOn(Town.yardsOn(town.day() + i, town.kindOf(p), town.paceOf(p)), x);
            }
        }

        private void goOn(int yards, int x) {
            Arrays.fill(next, 0);
            for (int y = 0; y < YARDS; y++) {
                next[y] += weights[y] * x;
                next[(y + yards) % YARDS] += weights[y] * (10 - x);
            }
            int[] old = weights;
            weights = next;
            next = old;
        }
    }
}
