/**
 * Which ring was pressed into which lump of clay. DOC.md tells the rules; words that it writes in capitals
 * are used here in its sense.
 */
public final class ClaySeals {
    public static final int NONE = -1, BAD = -2, NOT = -3, FULL = -4;

    private static final int CELLS = 16;
    private static final int TURNS = 4;
    private static final int DAYS = 60;
    private static final int MOST_RINGS = 6;
    private static final int MOST_HELD = 12;
    private static final int MOST_LUMPS = 12;
    private static final int MOST_LED = 8;
    private static final int PERSONS = 8;
    private static final int BACKS = 4;
    private static final int PEG = 1;
    private static final int DOORS = 4;

    private final Line line;
    private final Rings rings;
    private final Lumps lumps;
    private final Matches matches;
    private final Ways leading;
    private final Strangers strangers;
    private final Sheets sheets;

    public ClaySeals() {
        line = new Line();
        rings = new Rings();
        lumps = new Lumps();
        matches = new Matches(rings, lumps);
        leading = new Ways(matches);
        strangers = new Strangers(lumps);
        sheets = new Sheets();
    }

    // ---- lines

    public int type(int b) {
        return isBelow(b, 256) ? line.append(b) : BAD;
    }

    public int wipe() {
        return line.clear();
    }

    public int fault() {
        return line.findFault();
    }

    // ---- rings, lumps

    public int ring() {
        if (line.findFault() != NONE || line.unseen != 0) {
            return NOT;
        }
        if (rings.total >= MOST_RINGS) {
            return FULL;
        }
        int number = rings.add(line.marks);
        line.clear();
        leading.forget();
        return number;
    }

    public int anew(int ring, int of, int day) {
        if (!isRing(ring) || !isRing(of) || of >= ring || !isDay(day)) {
            return BAD;
        }
        if (rings.older[ring] != NONE || rings.newerThan(of) != NONE) {
            return NOT;
        }
        rings.older[ring] = of;
        rings.cutDay[ring] = day;
        leading.forget();
        return 1;
    }

    public int held(int ring, int person, int from, int to) {
        if (!isRing(ring) || !isBelow(person, PERSONS) || !areDays(from, to)) {
            return BAD;
        }
        if (rings.heldTotal >= MOST_HELD) {
            return FULL;
        }
        leading.forget();
        return rings.hold(ring, person, daysBetween(from, to));
    }

    public int read(int s) {
        if (!sheets.isSheet(s)) {
            return BAD;
        }
        if (sheets.isLost(s)) {
            return sheets.find(Sheets.NULL);
        }
        int taken = 0;
        for (int i = 0; i + 3 < sheets.size[s]; i += 4) {
            int ring = sheets.item(s, i);
            int person = sheets.item(s, i + 1);
            if (held(ring, person, sheets.item(s, i + 2), sheets.item(s, i + 3)) < 0) {
                return taken;
            }
            taken++;
        }
        return taken;
    }

    public int lump(int from, int to, int back, int door) {
        if (!areDays(from, to) || !isBelow(back, BACKS) || !isBelow(door, DOORS)) {
            return BAD;
        }
        if (line.findFault() != NONE) {
            return NOT;
        }
        if (lumps.total >= MOST_LUMPS) {
            return FULL;
        }
        int number = lumps.add(line.marks, line.unseen);
        lumps.place(number, from, to, back, door);
        line.clear();
        forgetLumps();
        return number;
    }

    public int aside(int lumps) {
        if (lumps < 0 || lumps >= 1 << this.lumps.total) {
            return BAD;
        }
        int were = this.lumps.aside;
        this.lumps.aside = lumps;
        forgetLumps();
        return were;
    }

    public int lumpIs(int lump, int what) {
        if (!isLump(lump)) {
            return BAD;
        }
        switch (what) {
            case 0: return lumps.marksOf(lump);
            case 1: return lumps.unseen[lump];
            case 2: return lumps.from[lump];
            case 3: return lumps.to[lump];
            case 4: return lumps.back[lump];
            case 5: return lumps.door[lump];
            case 6: return lumps.isAside(lump) ? 1 : 0;
            default: return BAD;
        }
    }

    public int ringIs(int ring, int what) {
        if (!isRing(ring)) {
            return BAD;
        }
        switch (what) {
            case 0: return rings.picture[ring];
            case 1: return rings.older[ring];
            case 2: return rings.cutDay[ring];
            case 3: return rings.stoneOf(ring);
            case 4: return rings.timesHeld(ring);
            default: return BAD;
        }
    }

    // ---- what can be

    public int can(int lump, int ring) {
        if (!isLump(lump) || !isRing(ring)) {
            return BAD;
        }
        int turns = 0;
        for (int turned = 0; turned < TURNS; turned++) {
            if (matches.canBe(lump, ring, turned)) {
                turns |= 1 << turned;
            }
        }
        return turns;
    }

    public int cells(int lump, int ring, int turned, int what) {
        if (!isLump(lump) || !isRing(ring) || !isBelow(turned, TURNS) || !isBelow(what, 2)) {
            return BAD;
        }
        if (!matches.canBe(lump, ring, turned)) {
            return NOT;
        }
        return what == 0 ? matches.chipped(lump, ring, turned) : matches.whole(lump, turned);
    }

    public int earlier(int ring, int a, int turnedA, int b, int turnedB) {
        if (!isRing(ring) || !isLump(a) || !isLump(b) || a == b) {
            return BAD;
        }
        if (!isBelow(turnedA, TURNS) || !isBelow(turnedB, TURNS)) {
            return BAD;
        }
        if (!matches.canBe(a, ring, turnedA) || !matches.canBe(b, ring, turnedB)) {
            return NOT;
        }
        return (matches.whole(a, turnedA) & matches.chipped(b, ring, turnedB)) != 0 ? 1 : 0;
    }

    // ---- ways

    public int ways() {
        return leading.refusal() == FULL ? FULL : leading.found;
    }

    public int stones() {
        int refusal = leading.refusal();
        return refusal != 0 ? refusal : leading.fewest;
    }

    public int best(int lump, int what) {
        if (!isLump(lump) || !isBelow(what, 2)) {
            return BAD;
        }
        int refusal = leading.refusal();
        if (refusal != 0) {
            return refusal;
        }
        return what == 0 ? leading.bestRing[lump] : leading.bestTurned[lump];
    }

    public int may(int lump) {
        if (!isLump(lump)) {
            return BAD;
        }
        int refusal = leading.refusal();
        return refusal != 0 ? refusal : leading.ringsOf[lump];
    }

    public int sure() {
        int refusal = leading.refusal();
        if (refusal != 0) {
            return refusal;
        }
        int bits = 0;
        for (int lump = 0; lump < lumps.total; lump++) {
            if (Integer.bitCount(stonesItMayBeOf(lump)) == 1) {
                bits |= 1 << lump;
            }
        }
        return bits;
    }

    public int pressed(int lump) {
        if (!isLump(lump)) {
            return BAD;
        }
        int refusal = leading.refusal();
        if (refusal != 0) {
            return refusal;
        }
        int persons = 0;
        for (int held = 0; held < rings.heldTotal; held++) {
            if (isPressedBy(lump, held)) {
                persons |= 1 << rings.heldPerson[held];
            }
        }
        return persons;
    }

    public int empty() {
        int refusal = leading.refusal();
        if (refusal != 0) {
            return refusal;
        }
        int bits = 0;
        for (int held = 0; held < rings.heldTotal; held++) {
            if (!hasLump(held)) {
                bits |= 1 << held;
            }
        }
        return bits;
    }

    public int leftOut() {
        return leading.refusal() == FULL ? FULL : leading.fewestLeftOut();
    }

    // ---- unknown rings, copies

    public int joined(int a, int b) {
        if (!isLump(a) || !isLump(b) || a == b) {
            return BAD;
        }
        return lumps.canBeJoined(a, b) ? 1 : 0;
    }

    public int least() {
        if (lumps.areTooMany()) {
            return FULL;
        }
        strangers.refresh();
        return strangers.fewest;
    }

    public int ones(int lump) {
        if (!isLump(lump)) {
            return BAD;
        }
        if (lumps.areTooMany()) {
            return FULL;
        }
        strangers.refresh();
        return strangers.numberOf[lump];
    }

    public int near(int a, int b) {
        if (!isRing(a) || !isRing(b) || a == b) {
            return BAD;
        }
        return rings.unlikeCells(a, b);
    }

    public int copyOf(int ring, int most) {
        if (!isRing(ring) || !isBelow(most, CELLS + 1)) {
            return BAD;
        }
        int nearest = NONE;
        int fewest = most + 1;
        for (int other = 0; other < rings.total; other++) {
            if (rings.stoneOf(other) != rings.stoneOf(ring)) {
                int unlike = rings.unlikeCells(ring, other);
                if (unlike < fewest) {
                    fewest = unlike;
                    nearest = other;
                }
            }
        }
        return nearest;
    }

    // ---- doors, cleaning

    public int shut(int door, int day, int what) {
        if (!isBelow(door, DOORS) || !isDay(day) || !isBelow(what, 2)) {
            return BAD;
        }
        int many = 0;
        for (int lump = 0; lump < lumps.total; lump++) {
            if (lumps.isPegAt(lump, door) && lumps.isOnDay(lump, day, what == 1)) {
                many++;
            }
        }
        return many;
    }

    public int gap(int door) {
        if (!isBelow(door, DOORS)) {
            return BAD;
        }
        long days = 0;
        for (int lump = 0; lump < lumps.total; lump++) {
            if (lumps.isPegAt(lump, door)) {
                days |= lumps.daysOf(lump);
            }
        }
        return longestHole(days);
    }

    public int clean() {
        int refusal = leading.refusal();
        if (refusal != 0) {
            return refusal;
        }
        int next = NONE;
        int most = 0;
        for (int lump = 0; lump < lumps.total; lump++) {
            int worth = worthOfCleaning(lump);
            if (worth > most) {
                most = worth;
                next = lump;
            }
        }
        return next;
    }

    // ---- sheets

    public int sheet(int s, int form, int n) {
        if (!sheets.isSheet(s) || !sheets.isForm(form) || n > Sheets.MOST_ITEMS) {
            return BAD;
        }
        if (n < 0) {
            return sheets.find(Sheets.SIZE);
        }
        sheets.begin(s, form, n);
        return n;
    }

    public int lose(int s) {
        if (!sheets.isSheet(s)) {
            return BAD;
        }
        if (sheets.isLost(s)) {
            return sheets.find(Sheets.NULL);
        }
        int had = sheets.size[s];
        sheets.size[s] = NONE;
        return had;
    }

    public int put(int s, int form, int i, int v) {
        if (!sheets.isSheet(s) || !sheets.isForm(form)) {
            return BAD;
        }
        int finding = sheets.findingAt(s, form, i);
        if (finding != 0) {
            return sheets.find(finding);
        }
        sheets.store(s, i, v);
        return 1;
    }

    public int get(int s, int form, int i) {
        if (!sheets.isSheet(s) || !sheets.isForm(form)) {
            return Integer.MIN_VALUE;
        }
        int finding = sheets.findingAt(s, form, i);
        if (finding != 0) {
            sheets.find(finding);
            return Integer.MIN_VALUE;
        }
        return sheets.item(s, i);
    }

    public int copy(int s, int i, int t, int j, int n) {
        if (!sheets.isSheet(s) || !sheets.isSheet(t)) {
            return BAD;
        }
        if (sheets.isLost(s) || sheets.isLost(t)) {
            return sheets.find(Sheets.NULL);
        }
        if (sheets.form[s] != sheets.form[t]) {
            return sheets.find(Sheets.STORE);
        }
        if (!sheets.hasItems(s, i, n) || !sheets.hasItems(t, j, n)) {
            return sheets.find(Sheets.INDEX);
        }
        sheets.move(s, i, t, j, n);
        return 1;
    }

    public int write(int s) {
        if (!sheets.isSheet(s)) {
            return BAD;
        }
        if (sheets.isLost(s)) {
            return sheets.find(Sheets.NULL);
        }
        int refusal = leading.refusal();
        if (refusal != 0) {
            return refusal;
        }
        int many = Math.min(sheets.size[s], lumps.total);
        for (int lump = 0; lump < many; lump++) {
            sheets.store(s, lump, leading.bestRing[lump]);
        }
        return many;
    }

    public int count(int what) {
        switch (what) {
            case 0: return rings.total;
            case 1: return rings.stonesOfAll();
            case 2: return lumps.total;
            case 3: return lumps.aside;
            case 4: return rings.heldTotal;
            case 5: return line.length;
            case 6: return lumps.unseenOfAll();
            case 8: return sheets.latest;
            default: return BAD;
        }
    }

    public long digest() {
        long h = 17;
        for (int what = 0; what <= 6; what++) {
            h = 31 * h + count(what);
        }
        h = 31 * h + fault();
        for (int ring = 0; ring < rings.total; ring++) {
            for (int what = 0; what <= 4; what++) {
                h = 31 * h + ringIs(ring, what);
            }
        }
        for (int lump = 0; lump < lumps.total; lump++) {
            for (int what = 0; what <= 6; what++) {
                h = 31 * h + lumpIs(lump, what);
            }
            h = 31 * h + best(lump, 0);
            h = 31 * h + best(lump, 1);
            h = 31 * h + may(lump);
        }
        h = 31 * h + ways();
        h = 31 * h + stones();
        h = 31 * h + sure();
        h = 31 * h + empty();
        h = 31 * h + leftOut();
        return 31 * h + least();
    }

    // ---- what the acts share

    private void forgetLumps() {
        leading.forget();
        strangers.forget();
    }

    private int stonesItMayBeOf(int lump) {
        int stones = 0;
        for (int ring = 0; ring < rings.total; ring++) {
            if (hasBit(leading.ringsOf[lump], ring)) {
                stones |= 1 << rings.stoneOf(ring);
            }
        }
        return stones;
    }

    private boolean isPressedBy(int lump, int held) {
        int ring = rings.heldRing[held];
        return hasBit(leading.ringsOf[lump], ring) && (rings.heldDays[held] & matches.sharedDays(lump, ring)) != 0;
    }

    private boolean hasLump(int held) {
        for (int lump = 0; lump < lumps.total; lump++) {
            if (isPressedBy(lump, held)) {
                return true;
            }
        }
        return false;
    }

    /** STONES weigh more than all cells that one LUMP can hide; 0 of a LUMP that cleaning cannot help. */
    private int worthOfCleaning(int lump) {
        int stones = Integer.bitCount(stonesItMayBeOf(lump));
        int hidden = Integer.bitCount(lumps.unseen[lump]);
        return stones < 2 || hidden < 1 ? 0 : stones * (CELLS + 1) + hidden;
    }

    private boolean isRing(int ring) {
        return isBelow(ring, rings.total);
    }

    private boolean isLump(int lump) {
        return isBelow(lump, lumps.total);
    }

    private static boolean isDay(int day) {
        return isBelow(day, DAYS);
    }

    private static boolean areDays(int from, int to) {
        return isDay(from) && isDay(to) && from <= to;
    }

    private static boolean isBelow(int value, int bound) {
        return value >= 0 && value < bound;
    }

    private static boolean hasBit(int bits, int place) {
        return ((bits >> place) & 1) != 0;
    }

    private static long daysBetween(int from, int to) {
        return ((1L << (to - from + 1)) - 1) << from;
    }

    private static int longestHole(long days) {
        int longest = 0;
        int run = 0;
        boolean begun = false;
        for (int day = 0; day < DAYS; day++) {
            if (((days >> day) & 1) != 0) {
                longest = begun ? Math.max(longest, run) : 0;
                begun = true;
                run = 0;
            } else {
                run++;
            }
        }
        return longest;
    }

    private static int turnedRight(int cells, int times) {
        int now = cells;
        for (int time = 0; time < times; time++) {
            int next = 0;
            for (int cell = 0; cell < CELLS; cell++) {
                if (hasBit(now, cell)) {
                    next |= 1 << (4 * (cell & 3) + 3 - (cell >> 2));
                }
            }
            now = next;
        }
        return now;
    }

    /** The LINE, and the picture that findFault() last read from it. */
    private static final class Line {
        private static final int MOST_BYTES = 40;

        private final int[] bytes = new int[MOST_BYTES];
        private int length = 0;
        private int marks = 0;
        private int unseen = 0;

        private int append(int b) {
            if (length >= MOST_BYTES) {
                return FULL;
            }
            bytes[length] = b;
            length++;
            return length;
        }

        private int clear() {
            int had = length;
            length = 0;
            return had;
        }

        private int findFault() {
            marks = 0;
            unseen = 0;
            int cell = 0;
            int at = 0;
            while (at < length) {
                int sign = bytes[at];
                if (!isSign(sign) || cell >= CELLS) {
                    return at;
                }
                int times = 1;
                at++;
                if (at < length && bytes[at] == '*') {
                    at++;
                    times = numberAt(at);
                    if (times < 2 || times > CELLS - cell) {
                        return at;
                    }
                    at += isFigureAt(at + 1) ? 2 : 1;
                }
                show(sign, cell, times);
                cell += times;
            }
            return cell < CELLS ? length : NONE;
        }

        /** The number of one or two figures there; 0, which no LINE may have, if there is none. */
        private int numberAt(int at) {
            if (!isFigureAt(at)) {
                return 0;
            }
            int first = bytes[at] - '0';
            return isFigureAt(at + 1) ? 10 * first + bytes[at + 1] - '0' : first;
        }

        private boolean isFigureAt(int at) {
            return at < length && bytes[at] >= '0' && bytes[at] <= '9';
        }

        private void show(int sign, int cell, int times) {
            int cells = ((1 << times) - 1) << cell;
            if (sign == '#') {
                marks |= cells;
            } else if (sign == '?') {
                unseen |= cells;
            }
        }

        private static boolean isSign(int b) {
            return b == '#' || b == '.' || b == '?';
        }
    }

    /** RINGS with what is told of them: CUT ANEW, HELD. */
    private static final class Rings {
        private final int[] picture = new int[MOST_RINGS];
        private final int[] older = new int[MOST_RINGS];
        private final int[] cutDay = new int[MOST_RINGS];
        private int total = 0;
        private final int[] heldRing = new int[MOST_HELD];
        private final int[] heldPerson = new int[MOST_HELD];
        private final long[] heldDays = new long[MOST_HELD];
        private int heldTotal = 0;

        private int add(int marks) {
            int ring = total;
            picture[ring] = marks;
            older[ring] = NONE;
            cutDay[ring] = NONE;
            total++;
            return ring;
        }

        private int hold(int ring, int person, long days) {
            int number = heldTotal;
            heldRing[number] = ring;
            heldPerson[number] = person;
            heldDays[number] = days;
            heldTotal++;
            return number;
        }

        private int newerThan(int ring) {
            for (int other = 0; other < total; other++) {
                if (older[other] == ring) {
                    return other;
                }
            }
            return NONE;
        }

        private int stoneOf(int ring) {
            int stone = ring;
            for (int step = 0; step < MOST_RINGS && older[stone] != NONE; step++) {
                stone = older[stone];
            }
            return stone;
        }

        private int stonesOfAll() {
            int many = 0;
            for (int ring = 0; ring < total; ring++) {
                if (older[ring] == NONE) {
                    many++;
                }
            }
            return many;
        }

        private int timesHeld(int ring) {
            int many = 0;
            for (int held = 0; held < heldTotal; held++) {
                if (heldRing[held] == ring) {
                    many++;
                }
            }
            return many;
        }

        /** The DAYS on which the RING was pressed. */
        private long pressDays(int ring) {
            long days = 0;
            for (int held = 0; held < heldTotal; held++) {
                if (heldRing[held] == ring) {
                    days |= heldDays[held];
                }
            }
            if (timesHeld(ring) == 0) {
                days = daysBetween(0, DAYS - 1);
            }
            if (older[ring] != NONE) {
                days &= daysBetween(cutDay[ring], DAYS - 1);
            }
            int newer = newerThan(ring);
            return newer == NONE ? days : days & daysBetween(0, cutDay[newer]);
        }

        private int unlikeCells(int a, int b) {
            int fewest = CELLS;
            for (int turned = 0; turned < TURNS; turned++) {
                int unlike = Integer.bitCount(picture[a] ^ turnedRight(picture[b], turned));
                fewest = Math.min(fewest, unlike);
            }
            return fewest;
        }
    }

    /**
     * LUMPS. What they show is kept four times, as it lies in the RING's own PICTURE when that was TURNED
     * so often, since the search asks for it again and again.
     */
    private static final class Lumps {
        private final int[] marks = new int[MOST_LUMPS * TURNS];
        private final int[] blanks = new int[MOST_LUMPS * TURNS];
        private final int[] unseen = new int[MOST_LUMPS];
        private final int[] from = new int[MOST_LUMPS];
        private final int[] to = new int[MOST_LUMPS];
        private final int[] back = new int[MOST_LUMPS];
        private final int[] door = new int[MOST_LUMPS];
        private int total = 0;
        private int aside = 0;

        private int add(int shown, int hidden) {
            int lump = total;
            int none = ((1 << CELLS) - 1) & ~shown & ~hidden;
            for (int turned = 0; turned < TURNS; turned++) {
                int home = (TURNS - turned) % TURNS;
                marks[lump * TURNS + turned] = turnedRight(shown, home);
                blanks[lump * TURNS + turned] = turnedRight(none, home);
            }
            unseen[lump] = hidden;
            total++;
            return lump;
        }

        private void place(int lump, int first, int last, int behind, int at) {
            from[lump] = first;
            to[lump] = last;
            back[lump] = behind;
            door[lump] = at;
        }

        private int marksOf(int lump) {
            return marks[lump * TURNS];
        }

        private boolean isAside(int lump) {
            return hasBit(aside, lump);
        }

        private boolean areTooMany() {
            return total - Integer.bitCount(aside) > MOST_LED;
        }

        private long daysOf(int lump) {
            return daysBetween(from[lump], to[lump]);
        }

        private int unseenOfAll() {
            int many = 0;
            for (int lump = 0; lump < total; lump++) {
                many += Integer.bitCount(unseen[lump]);
            }
            return many;
        }

        private boolean isPegAt(int lump, int at) {
            return !isAside(lump) && back[lump] == PEG && door[lump] == at;
        }

        private boolean isOnDay(int lump, int day, boolean alone) {
            if (alone) {
                return from[lump] == day && to[lump] == day;
            }
            return from[lump] <= day && day <= to[lump];
        }

        private boolean canBeJoined(int a, int b) {
            for (int turned = 0; turned < TURNS; turned++) {
                boolean firstIsEarlier = (marks[a * TURNS] & blanks[b * TURNS + turned]) != 0;
                boolean secondIsEarlier = (marks[b * TURNS + turned] & blanks[a * TURNS]) != 0;
                boolean bothAre = firstIsEarlier && secondIsEarlier;
                boolean firstIsLate = firstIsEarlier && from[a] > to[b];
                boolean secondIsLate = secondIsEarlier && from[b] > to[a];
                if (!bothAre && !firstIsLate && !secondIsLate) {
                    return true;
                }
            }
            return false;
        }
    }

    /** Which RING a LUMP CAN BE of, and what it tells of that RING's cells. */
    private static final class Matches {
        private final Rings rings;
        private final Lumps lumps;

        private Matches(Rings rings, Lumps lumps) {
            this.rings = rings;
            this.lumps = lumps;
        }

        private boolean canBe(int lump, int ring, int turned) {
            return showsNoOther(lump, ring, turned) && sharedDays(lump, ring) != 0;
        }

        private boolean showsNoOther(int lump, int ring, int turned) {
            return (whole(lump, turned) & ~rings.picture[ring]) == 0;
        }

        private int whole(int lump, int turned) {
            return lumps.marks[lump * TURNS + turned];
        }

        private int chipped(int lump, int ring, int turned) {
            return lumps.blanks[lump * TURNS + turned] & rings.picture[ring];
        }

        private long sharedDays(int lump, int ring) {
            return lumps.daysOf(lump) & rings.pressDays(ring);
        }
    }

    /**
     * All that each LUMP not ASIDE can be led to: RING by RING, the less TURNED first. Such a LUMP is named
     * by its place among those not ASIDE.
     */
    private static final class Choices {
        private static final int MOST_CHOICES = MOST_LED * MOST_RINGS * TURNS;

        private final Matches matches;
        private final int[] lumpAt = new int[MOST_LED];
        private int places = 0;
        private final int[] start = new int[MOST_LED * MOST_RINGS + 1];
        private final int[] ring = new int[MOST_CHOICES];
        private final int[] turned = new int[MOST_CHOICES];
        private final int[] whole = new int[MOST_CHOICES];
        private final int[] chipped = new int[MOST_CHOICES];
        private final long[] days = new long[MOST_CHOICES];
        private int total = 0;

        private Choices(Matches matches) {
            this.matches = matches;
        }

        private void gather() {
            places = 0;
            total = 0;
            for (int lump = 0; lump < matches.lumps.total; lump++) {
                if (!matches.lumps.isAside(lump) && places < MOST_LED) {
                    lumpAt[places] = lump;
                    for (int r = 0; r < MOST_RINGS; r++) {
                        start[places * MOST_RINGS + r] = total;
                        long shared = r < matches.rings.total ? matches.sharedDays(lump, r) : 0;
                        if (shared != 0) {
                            gatherTurns(lump, r, shared);
                        }
                    }
                    places++;
                }
            }
            start[places * MOST_RINGS] = total;
        }

        private void gatherTurns(int lump, int r, long shared) {
            int first = total;
            for (int t = 0; t < TURNS; t++) {
                if (matches.showsNoOther(lump, r, t) && total < MOST_CHOICES) {
                    ring[total] = r;
                    turned[total] = t;
                    whole[total] = matches.whole(lump, t);
                    chipped[total] = matches.chipped(lump, r, t);
                    days[total] = shared;
                    total += isLikeOneFrom(first) ? 0 : 1;
                }
            }
        }

        private boolean isLikeOneFrom(int first) {
            for (int choice = first; choice < total; choice++) {
                if (whole[choice] == whole[total] && chipped[choice] == chipped[total]) {
                    return true;
                }
            }
            return false;
        }

        private int startOf(int place, int r) {
            return start[place * MOST_RINGS + r];
        }

        private int endOf(int place, int r) {
            return start[place * MOST_RINGS + r + 1];
        }
    }

    /** Places led to RINGS so far, and which of one RING are EARLIER than which. */
    private static final class Groups {
        private final Choices choices;
        private final int[] chosen = new int[MOST_LED];
        private final int[] members = new int[MOST_RINGS];
        private final int[] before = new int[MOST_LED];
        private final int[] after = new int[MOST_LED];
        private final int[] day = new int[MOST_LED];

        private Groups(Choices choices) {
            this.choices = choices;
        }

        private void enter(int place, int choice) {
            int others = members[choices.ring[choice]];
            for (int other = 0; other < choices.places; other++) {
                if (((others >> other) & 1) != 0) {
                    if ((choices.whole[chosen[other]] & choices.chipped[choice]) != 0) {
                        before[place] |= 1 << other;
                        after[other] |= 1 << place;
                    }
                    if ((choices.whole[choice] & choices.chipped[chosen[other]]) != 0) {
                        after[place] |= 1 << other;
                        before[other] |= 1 << place;
                    }
                }
            }
            chosen[place] = choice;
            members[choices.ring[choice]] = others | (1 << place);
        }

        private void leave(int place) {
            int others = ~(1 << place);
            members[choices.ring[chosen[place]]] &= others;
            if ((before[place] | after[place]) == 0) {
                return;
            }
            for (int other = 0; other < choices.places; other++) {
                before[other] &= others;
                after[other] &= others;
            }
            before[place] = 0;
            after[place] = 0;
        }

        /**
         * Whether those of a RING still AGREE with the place that entered last. Gives each the first DAY
         * that those before it leave: if that fails, all other DAYS do.
         */
        private boolean agree(int place) {
            // One that is in no order with others has a DAY of its own, as it CAN BE of the RING.
            if ((before[place] | after[place]) == 0) {
                return true;
            }
            if ((before[place] & after[place]) != 0) {
                return false;
            }
            int left = members[choices.ring[chosen[place]]];
            for (int step = 0; step < MOST_LED && left != 0; step++) {
                int next = 0;
                while (next < choices.places && (((left >> next) & 1) == 0 || (before[next] & left) != 0)) {
                    next++;
                }
                if (next >= choices.places) {
                    return false;
                }
                int first = 0;
                for (int other = 0; other < choices.places; other++) {
                    if (((before[next] >> other) & 1) != 0 && day[other] > first) {
                        first = day[other];
                    }
                }
                long open = (choices.days[chosen[next]] >> first) << first;
                if (open == 0) {
                    return false;
                }
                day[next] = Long.bitCount((open & -open) - 1);
                left &= ~(1 << next);
            }
            return true;
        }
    }

    /**
     * Whether further places can follow those led so far. It is asked for a RING again and again while
     * other RINGS change, so its answers are kept: for each RING a table for each number of places led when
     * it last changed; the sets asked for then have only places from that number on.
     */
    private static final class Followers {
        private static final int TABLES = 512;
        private static final int YES = 1;
        private static final int NO = 2;

        private final Choices choices;
        private final Groups groups;
        private final int[] answers = new int[MOST_RINGS * TABLES];
        private final int[] changedAt = new int[MOST_RINGS];
        private final int[] taken = new int[MOST_RINGS];

        private Followers(Choices choices, Groups groups) {
            this.choices = choices;
            this.groups = groups;
        }

        private void change(int ring, int places) {
            changedAt[ring] = places;
            int first = tableOf(ring);
            int end = first + (1 << (MOST_LED - places));
            for (int entry = first; entry < end; entry++) {
                answers[entry] = 0;
            }
        }

        /** Tables of 256, 128 .. 1 entries lie one behind the other. */
        private int tableOf(int ring) {
            return ring * TABLES + TABLES - (TABLES >> changedAt[ring]);
        }

        /** Each alone is tried ahead, as one that cannot follow would let the others be tried in vain. */
        private boolean canAllFollow(int set) {
            for (int place = 0; place < choices.places; place++) {
                if (hasBit(set, place) && !canFollow(1 << place, place)) {
                    return false;
                }
            }
            return canFollow(set, 0);
        }

        /** Whether the places of the set, from one on, can all be led to RINGS besides those taken. */
        private boolean canFollow(int set, int from) {
            int place = nextOf(set, from);
            if (place >= choices.places) {
                return true;
            }
            for (int ring = 0; ring < MOST_RINGS; ring++) {
                int had = taken[ring];
                int with = had | (1 << place);
                int entry = tableOf(ring) + (with >> changedAt[ring]);
                if (answers[entry] == 0) {
                    answers[entry] = canBeTurned(ring, with, 0) ? YES : NO;
                }
                if (answers[entry] == YES) {
                    taken[ring] = with;
                    boolean fits = canFollow(set, place + 1);
                    taken[ring] = had;
                    if (fits) {
                        return true;
                    }
                }
            }
            return false;
        }

        /** Whether the places of the set, from one on, can be TURNED such that they AGREE in the RING. */
        private boolean canBeTurned(int ring, int set, int from) {
            int place = nextOf(set, from);
            if (place >= choices.places) {
                return true;
            }
            boolean fits = false;
            int end = choices.endOf(place, ring);
            for (int choice = choices.startOf(place, ring); choice < end && !fits; choice++) {
                groups.enter(place, choice);
                fits = groups.agree(place) && canBeTurned(ring, set, place + 1);
                groups.leave(place);
            }
            return fits;
        }

        private int nextOf(int set, int from) {
            int place = from;
            while (place < choices.places && ((set >> place) & 1) == 0) {
                place++;
            }
            return place;
        }
    }

    /** The WAYS, found anew when something that they hang on has changed. */
    private static final class Ways {
        private static final int MOST_WAYS = 20000;

        private final Matches matches;
        private final Choices choices;
        private final Groups groups;
        private final Followers followers;
        private final int[] stone = new int[MOST_RINGS];
        private final int[] bestRing = new int[MOST_LUMPS];
        private final int[] bestTurned = new int[MOST_LUMPS];
        private final int[] ringsOf = new int[MOST_LUMPS];
        private int found = 0;
        private int fewest = 0;
        private boolean isFresh = false;

        private Ways(Matches matches) {
            this.matches = matches;
            choices = new Choices(matches);
            groups = new Groups(choices);
            followers = new Followers(choices, groups);
        }

        private void forget() {
            isFresh = false;
        }

        /**
         * FULL, NOT, or 0 if there are WAYS. FULL goes ahead: of more LUMPS than may be led nobody tells
         * whether there is a WAY.
         */
        private int refusal() {
            if (matches.lumps.areTooMany()) {
                return FULL;
            }
            if (!isFresh) {
                isFresh = true;
                begin();
                if (followers.canAllFollow(placesFrom(0))) {
                    lead(0, 0);
                }
            }
            return found == 0 ? NOT : 0;
        }

        private void begin() {
            choices.gather();
            for (int ring = 0; ring < MOST_RINGS; ring++) {
                followers.change(ring, 0);
                stone[ring] = ring < matches.rings.total ? matches.rings.stoneOf(ring) : ring;
            }
            for (int lump = 0; lump < MOST_LUMPS; lump++) {
                bestRing[lump] = NONE;
                bestTurned[lump] = NONE;
                ringsOf[lump] = 0;
            }
            found = 0;
            fewest = MOST_RINGS + 1;
        }

        private int placesFrom(int place) {
            return (1 << choices.places) - (1 << place);
        }

        /** Goes on only where the rest can follow; whether the last one can is seen soon enough. */
        private void lead(int place, int stones) {
            if (place >= choices.places) {
                tell(Integer.bitCount(stones));
                return;
            }
            int end = choices.endOf(place, MOST_RINGS - 1);
            for (int choice = choices.startOf(place, 0); choice < end && found < MOST_WAYS; choice++) {
                int ring = choices.ring[choice];
                int had = found;
                int changedAt = followers.changedAt[ring];
                groups.enter(place, choice);
                if (groups.agree(place)) {
                    followers.change(ring, place + 1);
                    if (place + 2 >= choices.places || followers.canAllFollow(placesFrom(place + 1))) {
                        lead(place + 1, stones | (1 << stone[ring]));
                    }
                }
                followers.changedAt[ring] = changedAt;
                groups.leave(place);
                if (found > had) {
                    ringsOf[choices.lumpAt[place]] |= 1 << ring;
                }
            }
        }

        private void tell(int stones) {
            found++;
            if (stones >= fewest) {
                return;
            }
            fewest = stones;
            for (int place = 0; place < choices.places; place++) {
                bestRing[choices.lumpAt[place]] = choices.ring[groups.chosen[place]];
                bestTurned[choices.lumpAt[place]] = choices.turned[groups.chosen[place]];
            }
        }

        private int fewestLeftOut() {
            int all = placesFrom(0);
            for (int many = 0; many <= choices.places; many++) {
                for (int out = 0; out <= all; out++) {
                    if (Integer.bitCount(out) == many && followers.canAllFollow(all & ~out)) {
                        return lumpsAt(out);
                    }
                }
            }
            return lumpsAt(all);
        }

        private int lumpsAt(int set) {
            int lumps = 0;
            for (int place = 0; place < choices.places; place++) {
                if (hasBit(set, place)) {
                    lumps |= 1 << choices.lumpAt[place];
                }
            }
            return lumps;
        }
    }

    /** LUMPS of rings that nobody knows: the fewest such rings. */
    private static final class Strangers {
        private final Lumps lumps;
        private final int[] lumpAt = new int[MOST_LED];
        private final int[] friends = new int[MOST_LED];
        private final int[] members = new int[MOST_LED];
        private final int[] numberOf = new int[MOST_LUMPS];
        private int places = 0;
        private int fewest = 0;
        private boolean isFresh = false;

        private Strangers(Lumps lumps) {
            this.lumps = lumps;
        }

        private void forget() {
            isFresh = false;
        }

        private void refresh() {
            if (isFresh) {
                return;
            }
            isFresh = true;
            gather();
            fewest = 0;
            while (!share(0, 0) && fewest < places) {
                fewest++;
            }
        }

        private void gather() {
            places = 0;
            for (int lump = 0; lump < lumps.total; lump++) {
                numberOf[lump] = NONE;
                if (!lumps.isAside(lump) && places < MOST_LED) {
                    lumpAt[places] = lump;
                    places++;
                }
            }
            for (int place = 0; place < places; place++) {
                members[place] = 0;
                friends[place] = 0;
                for (int other = 0; other < place; other++) {
                    if (lumps.canBeJoined(lumpAt[other], lumpAt[place])) {
                        friends[place] |= 1 << other;
                    }
                }
            }
        }

        /** Numbers the places from this one on, the least number first, so the first row found is the least. */
        private boolean share(int place, int used) {
            if (place >= places) {
                return true;
            }
            for (int number = 0; number <= used && number < fewest; number++) {
                if ((members[number] & ~friends[place]) == 0) {
                    members[number] |= 1 << place;
                    numberOf[lumpAt[place]] = number;
                    boolean fits = share(place + 1, Math.max(used, number + 1));
                    members[number] &= ~(1 << place);
                    if (fits) {
                        return true;
                    }
                }
            }
            return false;
        }
    }

    /** SHEETS, and the latest FINDING. */
    private static final class Sheets {
        private static final int SHEETS = 4;
        private static final int FORMS = 3;
        private static final int MOST_ITEMS = 48;
        private static final int NULL = 1;
        private static final int INDEX = 2;
        private static final int CAST = 3;
        private static final int STORE = 4;
        private static final int SIZE = 5;

        private final int[] items = new int[SHEETS * MOST_ITEMS];
        private final int[] form = new int[SHEETS];
        private final int[] size = {NONE, NONE, NONE, NONE};
        private int latest = 0;

        private boolean isSheet(int s) {
            return isBelow(s, SHEETS);
        }

        private boolean isForm(int f) {
            return isBelow(f, FORMS);
        }

        private boolean isLost(int s) {
            return size[s] == NONE;
        }

        private int find(int finding) {
            latest = finding;
            return -10 - finding;
        }

        private void begin(int s, int f, int n) {
            form[s] = f;
            size[s] = n;
            for (int i = 0; i < n; i++) {
                items[s * MOST_ITEMS + i] = 0;
            }
        }

        private int findingAt(int s, int f, int i) {
            if (isLost(s)) {
                return NULL;
            }
            if (form[s] != f) {
                return CAST;
            }
            return isBelow(i, size[s]) ? 0 : INDEX;
        }

        private int item(int s, int i) {
            return items[s * MOST_ITEMS + i];
        }

        private void store(int s, int i, int v) {
            int kept = v;
            if (form[s] == 0) {
                kept = (byte) v;
            } else if (form[s] == 1) {
                kept = (short) v;
            }
            items[s * MOST_ITEMS + i] = kept;
        }

        /** Without a sum, which could wrap around. */
        private boolean hasItems(int s, int i, int n) {
            return i >= 0 && n >= 0 && i <= size[s] && n <= size[s] - i;
        }

        private void move(int s, int i, int t, int j, int n) {
            System.arraycopy(items, s * MOST_ITEMS + i, items, t * MOST_ITEMS + j, n);
        }
    }
}
