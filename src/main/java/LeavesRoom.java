/**
 * A round table with six seats that leaves room for the one who would have come.
 * The promises by number, and the words in capitals, stand in ../shared/DOC.md.
 *
 * All rows are made with the object and used again, so that no call makes an object or an array.
 */
public final class LeavesRoom {
    public static final int NONE = -1, BAD = -2, STATE = -3, FULL = -4;
    public static final long NO = Long.MIN_VALUE;

    private static final int NOTHING = -11, CAST = -12, PLACE = -13, SIZE = -14;
    private static final int LOW_NONE = -10001, LOW_BAD = -10002;
    private static final int NEVER = -5;
    private static final int ENDED = 100;
    private static final int BY_NUMBER = 10;

    private static final int GUEST = 0, WOULD = 1, UNCLE = 2, SISTER = 3, SHADOW = 4, LATE = 5, TOLD = 6;
    private static final int KINDS = 7;
    private static final int[] KIND_ABOVE = {-1, GUEST, GUEST, GUEST, WOULD, UNCLE, SISTER};

    private static final int SEATS = 6;
    private static final int PARTS = 4;
    private static final int LAST_YEAR = 9999;
    private static final int YEARS_AHEAD = 60;
    private static final int YEARS_SEEN = 20;
    private static final int MOST_SEEN = 5, MOST_PLANNED = 10, MOST_BOOKED = 8;
    private static final int MOST_ODDS = 999;
    private static final int MOST_BYTES = 100, MOST_HOUSES = 6, MOST_CLAUSES = 10, MOST_NESTED = 4;
    private static final int TAPES = 6, MOST_ITEMS = 60;
    private static final int A_YEAR = 0, IS_GONE = 1, IS_NOT_GONE = 2, ONE_POURS = 3;
    private static final int BYTES = 0, SHORTS = 1, INTS = 2, LONGS = 3, BOOLEANS = 4, NO_SORT = -1;

    private final Evening now;
    private final Evening image;
    private boolean hasImage;
    /** What is asked goes on here, so that it changes nothing. */
    private final Table trial;
    private final byte[] text = new byte[MOST_BYTES];
    private int textLength;
    private final House[] houses = new House[MOST_HOUSES];
    private int houseCount;
    private final Reader reader = new Reader();
    private final Placings placings;
    private final Acts acts = new Acts();
    private final Tape[] tapes = new Tape[TAPES];

    public LeavesRoom() {
        House bare = new House();
        now = new Evening(bare);
        image = new Evening(bare);
        trial = new Table(bare);
        placings = new Placings(trial);
        for (int h = 0; h < MOST_HOUSES; h++) {
            houses[h] = new House();
        }
        for (int t = 0; t < TAPES; t++) {
            tapes[t] = new Tape();
        }
    }

    // ---- guests, houses

    public int guest(int kind, int v) {
        if (kind < 0 || kind >= KINDS) {
            return NONE;
        }
        if (!isDigit(v)) {
            return BAD;
        }
        if (now.table.size >= SEATS) {
            return FULL;
        }
        return now.table.takeIn(kind, v);
    }

    public int of(int guest, int what) {
        if (!isGuest(guest)) {
            return LOW_NONE;
        }
        Table table = now.table;
        switch (what) {
            case 0: return table.kind[guest];
            case 1: return table.v[guest];
            case 2: return table.seat[guest];
            case 3: return oneIf(table.empty[guest]);
            case 4: return table.used[guest];
            case 5: return oneIf(table.gone[guest]);
            case 6: return table.neighbours(guest);
            case 7: return table.fondOf(guest);
            default: return LOW_NONE;
        }
    }

    public int likes(int one, int other) {
        if (!isGuest(one) || !isGuest(other)) {
            return LOW_NONE;
        }
        if (one == other) {
            return LOW_BAD;
        }
        return now.table.liking(one, other);
    }

    public int sit(int guest, int seat) {
        if (!isGuest(guest) || !isSeat(seat)) {
            return LOW_NONE;
        }
        now.table.moveTo(guest, seat);
        return now.table.fondOf(guest);
    }

    public int leave(int guest, boolean is) {
        if (!isGuest(guest)) {
            return NONE;
        }
        int was = oneIf(now.table.gone[guest]);
        now.table.gone[guest] = is;
        return was;
    }

    public int pour(int seat) {
        if (!isSeat(seat)) {
            return NONE;
        }
        now.table.pourAt(seat);
        return Integer.bitCount(now.table.emptyCups());
    }

    public int row(int guest, int part, int n) {
        if (!isGuest(guest) || part < 0 || part >= PARTS) {
            return NONE;
        }
        if (!isDigit(n)) {
            return BAD;
        }
        if (now.table.kind[guest] != TOLD) {
            return STATE;
        }
        int place = guest * PARTS + part;
        int was = now.table.rows[place];
        now.table.rows[place] = n;
        return was;
    }

    public int feed(int sign) {
        if (sign < 0 || sign > 127) {
            return BAD;
        }
        if (textLength >= MOST_BYTES) {
            return FULL;
        }
        text[textLength] = (byte) sign;
        textLength++;
        return textLength;
    }

    public int house() {
        if (houseCount >= MOST_HOUSES) {
            return FULL;
        }
        House house = houses[houseCount];
        int fault = reader.readInto(house, text, textLength);
        textLength = 0;
        if (fault >= 0) {
            return -10 - fault;
        }
        now.table.hold(house);
        houseCount++;
        return houseCount - 1;
    }

    public int told(int what) {
        Table table = now.table;
        switch (what) {
            case 0: return table.year;
            case 1: return table.house.thirst;
            case 2: return table.house.window;
            case 3: return table.pot;
            case 4: return table.emptyCups();
            case 5: return table.fondOfAll();
            case 6: return table.clashes();
            case 7: return table.round();
            case 8: return table.toward();
            default: return sitterOr(what - BY_NUMBER);
        }
    }

    private int sitterOr(int seat) {
        if (!isSeat(seat)) {
            return LOW_NONE;
        }
        int sitter = now.table.sitter[seat];
        return sitter < 0 ? NEVER : sitter;
    }

    // ---- years

    public int pass(int n) {
        if (n < 0 || n > YEARS_AHEAD) {
            return BAD;
        }
        if (now.table.year + n > LAST_YEAR) {
            return STATE;
        }
        now.table.yearsGo(n);
        return now.table.year;
    }

    public int on(int n, int what) {
        int guest = what - BY_NUMBER;
        if (what != 0 && what != 1 && !isGuest(guest)) {
            return LOW_NONE;
        }
        if (n < 0 || n > YEARS_AHEAD) {
            return LOW_BAD;
        }
        trial.copyFrom(now.table);
        trial.yearsGo(n);
        if (what == 0) {
            return trial.emptyCups();
        }
        return what == 1 ? usedMore() : trial.fondOf(guest);
    }

    public int soon(int q) {
        if (q < 0 || q > SEATS) {
            return BAD;
        }
        trial.copyFrom(now.table);
        for (int years = 0; years <= YEARS_AHEAD; years++) {
            if (Integer.bitCount(trial.emptyCups()) >= q) {
                return years;
            }
            trial.yearsGo(1);
        }
        return NEVER;
    }

    private int usedMore() {
        return trial.usedOfAll() - now.table.usedOfAll();
    }

    // ---- placings

    public int best(int what) {
        int guest = what - BY_NUMBER;
        if (what != 0 && !isGuest(guest)) {
            return LOW_NONE;
        }
        placings.find(now.table, false);
        return what == 0 ? placings.fond : placings.seat[guest];
    }

    public int peace(int what) {
        int guest = what - BY_NUMBER;
        if (what != 0 && what != 1 && !isGuest(guest)) {
            return LOW_NONE;
        }
        placings.find(now.table, true);
        if (what == 0) {
            return placings.clashes;
        }
        return what == 1 ? placings.fond : placings.seat[guest];
    }

    public int change() {
        int found = NEVER;
        int greatest = now.table.fondOfAll();
        for (int one = 0; one < now.table.size; one++) {
            for (int other = one + 1; other < now.table.size; other++) {
                trial.copyFrom(now.table);
                trial.moveTo(one, trial.seat[other]);
                int fond = trial.fondOfAll();
                if (fond > greatest) {
                    greatest = fond;
                    found = 10 * one + other;
                }
            }
        }
        return found;
    }

    public int seat(int guest) {
        if (!isGuest(guest)) {
            return NONE;
        }
        int found = 0;
        int greatest = 0;
        for (int seat = 0; seat < SEATS; seat++) {
            trial.copyFrom(now.table);
            trial.moveTo(guest, seat);
            int fond = trial.fondOf(guest);
            if (seat == 0 || fond > greatest) {
                greatest = fond;
                found = seat;
            }
        }
        return found;
    }

    // ---- seen, odds

    public int see(int guest, boolean isEmpty, int n) {
        if (guest == -1) {
            return now.seen.empty();
        }
        if (!isGuest(guest)) {
            return NONE;
        }
        if (n < 0 || n > YEARS_SEEN) {
            return BAD;
        }
        return now.seen.add(guest, oneIf(isEmpty), n);
    }

    public int where(int guest) {
        if (!isGuest(guest)) {
            return NONE;
        }
        int seats = 0;
        for (int seat = 0; seat < SEATS; seat++) {
            trial.copyFrom(now.table);
            trial.moveTo(guest, seat);
            if (isAllSeenSo()) {
                seats |= 1 << seat;
            }
        }
        return seats;
    }

    public int can(int guest, int what) {
        if (!isGuest(guest) || what < 0 || what > 1) {
            return NONE;
        }
        int many = 0;
        int least = NEVER;
        for (int v = 0; v <= 9; v++) {
            trial.copyFrom(now.table);
            trial.becomeV(guest, v);
            if (isAllSeenSo()) {
                least = many == 0 ? v : least;
                many++;
            }
        }
        return what == 0 ? many : least;
    }

    /** Lets the trial's YEARS go, as far as one of SEEN lies ahead. */
    private boolean isAllSeenSo() {
        int last = now.seen.greatestThird();
        for (int years = 0; years <= last; years++) {
            if (isOneSeenOtherwise(years)) {
                return false;
            }
            trial.yearsGo(1);
        }
        return true;
    }

    private boolean isOneSeenOtherwise(int years) {
        Rows seen = now.seen;
        for (int i = 0; i < seen.size; i++) {
            int guest = seen.first[i];
            if (seen.third[i] == years && isGuest(guest) && oneIf(trial.empty[guest]) != seen.second[i]) {
                return true;
            }
        }
        return false;
    }

    public long odds(int q, int part) {
        if (q < 0 || q > MOST_ODDS) {
            return NO;
        }
        int many = 0;
        for (int guest = 0; guest < now.table.size; guest++) {
            trial.copyFrom(now.table);
            trial.gone[guest] = true;
            if (trial.fondOfAll() >= q) {
                many++;
            }
        }
        return lowest(many, now.table.size, part);
    }

    public long mean(int part) {
        return lowest(now.table.fondOfAll(), now.table.size, part);
    }

    /** A part of a fraction in lowest terms; below is a number of GUESTS. */
    private static long lowest(int above, int below, int part) {
        if (below <= 0 || part < 0 || part > 1) {
            return NO;
        }
        int common = 1;
        for (int d = 2; d <= below; d++) {
            if (above % d == 0 && below % d == 0) {
                common = d;
            }
        }
        return part == 0 ? above / common : below / common;
    }

    // ---- plans, books

    public int plan(int what, int n) {
        if (what == -1) {
            return now.plan.empty();
        }
        boolean isKnown = what == A_YEAR
            || (what == IS_GONE || what == IS_NOT_GONE) && isGuest(n)
            || what == ONE_POURS && isSeat(n);
        return isKnown ? now.plan.add(what, n, 0) : NONE;
    }

    public int ends(int what) {
        if (what < 0 || what > 1) {
            return NONE;
        }
        trial.copyFrom(now.table);
        for (int i = 0; i < now.plan.size; i++) {
            tryPlanned(now.plan.first[i], now.plan.second[i]);
        }
        return what == 0 ? trial.emptyCups() : usedMore();
    }

    private void tryPlanned(int what, int n) {
        if (what == A_YEAR) {
            trial.yearsGo(1);
        } else if (what == ONE_POURS && isSeat(n)) {
            trial.pourAt(n);
        } else if (isGuest(n)) {
            trial.gone[n] = what == IS_GONE;
        }
    }

    public int book(int guest, int seat) {
        if (guest == -1) {
            return now.book.empty();
        }
        return isGuest(guest) && isSeat(seat) ? now.book.add(guest, seat, 0) : NONE;
    }

    public int looked() {
        for (int i = 0; i < now.book.size; i++) {
            int guest = now.book.first[i];
            if (isGuest(guest) && now.table.seat[guest] != now.book.second[i]) {
                return i;
            }
        }
        return NEVER;
    }

    // ---- judging, the image, acts, tapes

    public int judge(int tape, int i) {
        if (!isTape(tape)) {
            return NONE;
        }
        Tape row = tapes[tape];
        if (row.sort != BYTES && row.sort != NO_SORT) {
            return CAST;
        }
        for (int guest = 0; guest < now.table.size; guest++) {
            // i + guest can't wrap: a place beyond the row ends it with the first GUEST
            if (!row.hasPlace(i + guest)) {
                return ENDED + guest;
            }
            if (row.items[i + guest] != now.table.seat[guest]) {
                return guest;
            }
        }
        return NEVER;
    }

    public int image() {
        image.copyFrom(now);
        hasImage = true;
        return now.table.size;
    }

    public int undo() {
        if (!hasImage) {
            return STATE;
        }
        now.copyFrom(image);
        return now.table.size;
    }

    public int act(int guest, int act, int x) {
        if (!isGuest(guest) || act < 0 || act >= Acts.SORTS) {
            acts.forget();
            return 0;
        }
        return acts.begin(now.table.kind[guest], now.table.v[guest], guest, act, x);
    }

    public int trace(int i) {
        return i < 0 || i >= acts.kept() ? NONE : acts.trace[i];
    }

    public int taken(int guest, int k) {
        if (k < 0 || k >= KINDS) {
            return BAD;
        }
        if (!isGuest(guest)) {
            return NOTHING;
        }
        int kind = now.table.kind[guest];
        int above = kind;
        for (int up = 0; up < KINDS && above >= 0; up++) {
            if (above == k) {
                return kind;
            }
            above = KIND_ABOVE[above];
        }
        return CAST;
    }

    public int count(int what) {
        switch (what) {
            case 0: return now.table.size;
            case 1: return houseCount;
            case 2: return now.seen.size;
            case 3: return now.plan.size;
            case 4: return now.book.size;
            case 5: return textLength;
            case 6: return acts.ran;
            default: return BAD;
        }
    }

    public int tape(int tape, int sort, int n) {
        if (!isTape(tape)) {
            return NONE;
        }
        if (sort == NO_SORT) {
            tapes[tape].become(NO_SORT, 0);
            return 1;
        }
        if (sort < BYTES || sort > BOOLEANS || n > MOST_ITEMS) {
            return BAD;
        }
        if (n < 0) {
            return SIZE;
        }
        tapes[tape].become(sort, n);
        return 1;
    }

    public int item(int tape, int i, long v) {
        if (!isTape(tape)) {
            return NONE;
        }
        if (tapes[tape].sort == NO_SORT) {
            return NOTHING;
        }
        if (!tapes[tape].hasPlace(i)) {
            return PLACE;
        }
        tapes[tape].put(i, v);
        return 1;
    }

    public long read(int tape, int i) {
        return isTape(tape) && tapes[tape].hasPlace(i) ? tapes[tape].items[i] : NO;
    }

    public int shift(int tape, int i, int other, int j, int n) {
        if (!isTape(tape) || !isTape(other)) {
            return NONE;
        }
        Tape from = tapes[tape];
        Tape to = tapes[other];
        if (from.sort == NO_SORT || to.sort == NO_SORT) {
            return NOTHING;
        }
        if (from.sort != to.sort) {
            return CAST;
        }
        if (!from.hasPlaces(i, n) || !to.hasPlaces(j, n)) {
            return PLACE;
        }
        System.arraycopy(from.items, i, to.items, j, n);
        return n;
    }

    // ---- what is asked of a number

    private boolean isGuest(int guest) {
        return guest >= 0 && guest < now.table.size;
    }

    private static boolean isSeat(int seat) {
        return seat >= 0 && seat < SEATS;
    }

    private static boolean isTape(int tape) {
        return tape >= 0 && tape < TAPES;
    }

    private static boolean isDigit(int n) {
        return n >= 0 && n <= 9;
    }

    private static int oneIf(boolean is) {
        return is ? 1 : 0;
    }

    /** How all is, as far as an IMAGE keeps it. */
    private static final class Evening {
        private final Table table;
        private final Rows seen = new Rows(MOST_SEEN);
        private final Rows plan = new Rows(MOST_PLANNED);
        private final Rows book = new Rows(MOST_BOOKED);

        Evening(House house) {
            table = new Table(house);
        }

        void copyFrom(Evening other) {
            table.copyFrom(other.table);
            seen.copyFrom(other.seen);
            plan.copyFrom(other.plan);
            book.copyFrom(other.book);
        }
    }

    /** Rows of three numbers, told by hand. */
    private static final class Rows {
        private final int[] first;
        private final int[] second;
        private final int[] third;
        private final int most;
        private int size;

        Rows(int most) {
            this.most = most;
            first = new int[most];
            second = new int[most];
            third = new int[most];
        }

        int empty() {
            size = 0;
            return size;
        }

        int add(int a, int b, int c) {
            if (size >= most) {
                return FULL;
            }
            first[size] = a;
            second[size] = b;
            third[size] = c;
            size++;
            return size;
        }

        /** -1, if there are none. */
        int greatestThird() {
            int greatest = -1;
            for (int i = 0; i < size; i++) {
                greatest = Math.max(greatest, third[i]);
            }
            return greatest;
        }

        void copyFrom(Rows other) {
            size = other.size;
            System.arraycopy(other.first, 0, first, 0, most);
            System.arraycopy(other.second, 0, second, 0, most);
            System.arraycopy(other.third, 0, third, 0, most);
        }
    }

    /** GUESTS on their SEATS, THE POT, YEAR and the HOUSE that holds. */
    private static final class Table {
        private static final int[] SEAT_AFTER = {1, 2, 3, 4, 5, 0};
        private static final int[] SEAT_AHEAD = {5, 0, 1, 2, 3, 4};
        /** By KIND: 1 for those whom another such one vexes. */
        private static final int[] IS_SISTER = {0, 0, 0, 1, 0, 0, 1};

        private final int[] kind = new int[SEATS];
        private final int[] v = new int[SEATS];
        private final int[] seat = new int[SEATS];
        private final int[] used = new int[SEATS];
        private final boolean[] empty = new boolean[SEATS];
        private final boolean[] gone = new boolean[SEATS];
        private final int[] rows = new int[SEATS * PARTS];
        /** Who sits at a SEAT; -1: nobody. */
        private final int[] sitter = new int[SEATS];
        /** LIKES by the one and the other: reckoned anew just when YEAR, v, GUESTS or HOUSE change it. */
        private final int[] bond = new int[SEATS * SEATS];
        private final int[] facts = new int[House.FACTS];
        private int size;
        private int pot;
        private int year;
        private House house;

        Table(House house) {
            this.house = house;
            for (int s = 0; s < SEATS; s++) {
                sitter[s] = -1;
            }
        }

        void copyFrom(Table other) {
            System.arraycopy(other.kind, 0, kind, 0, SEATS);
            System.arraycopy(other.v, 0, v, 0, SEATS);
            System.arraycopy(other.seat, 0, seat, 0, SEATS);
            System.arraycopy(other.used, 0, used, 0, SEATS);
            System.arraycopy(other.empty, 0, empty, 0, SEATS);
            System.arraycopy(other.gone, 0, gone, 0, SEATS);
            System.arraycopy(other.rows, 0, rows, 0, SEATS * PARTS);
            System.arraycopy(other.sitter, 0, sitter, 0, SEATS);
            System.arraycopy(other.bond, 0, bond, 0, SEATS * SEATS);
            size = other.size;
            pot = other.pot;
            year = other.year;
            house = other.house;
        }

        /** The number of the GUEST that comes; NONE, if there is no SEAT. */
        int takeIn(int itsKind, int itsV) {
            int guest = size;
            int free = freeSeat();
            if (guest >= SEATS || free < 0) {
                return NONE;
            }
            // all else beyond size is still as at first: GUESTS never go, and an IMAGE keeps that, too
            kind[guest] = itsKind;
            v[guest] = itsV;
            place(guest, free);
            size++;
            reckon();
            return guest;
        }

        private int freeSeat() {
            for (int s = 0; s < SEATS; s++) {
                if (sitter[s] < 0) {
                    return s;
                }
            }
            return -1;
        }

        void place(int guest, int s) {
            seat[guest] = s;
            sitter[s] = guest;
        }

        void moveTo(int guest, int s) {
            int own = seat[guest];
            int other = sitter[s];
            sitter[own] = -1;
            if (other >= 0) {
                place(other, own);
            }
            place(guest, s);
        }

        void hold(House next) {
            house = next;
            reckon();
        }

        void becomeV(int guest, int its) {
            v[guest] = its;
            reckon();
        }

        private void reckon() {
            facts[House.YEAR_DIGIT] = year % 10;
            for (int one = 0; one < size; one++) {
                facts[House.ONE] = one;
                facts[House.ONES_KIND] = kind[one];
                facts[House.ONES_V] = v[one];
                for (int other = 0; other < size; other++) {
                    facts[House.OTHER] = other;
                    facts[House.OTHERS_KIND] = kind[other];
                    bond[one * SEATS + other] = house.liking(facts);
                }
            }
        }

        int liking(int one, int other) {
            return bond[one * SEATS + other];
        }

        /** The NEIGHBOUR that a SEAT gives to those BESIDE it; -1: none. */
        private int neighbourAt(int s) {
            int who = sitter[s];
            return who >= 0 && !gone[who] && kind[who] != SHADOW ? who : -1;
        }

        int neighbours(int guest) {
            int after = neighbourAt(SEAT_AFTER[seat[guest]]);
            int ahead = neighbourAt(SEAT_AHEAD[seat[guest]]);
            return (after < 0 ? 0 : 1 << after) | (ahead < 0 ? 0 : 1 << ahead);
        }

        int fondOf(int guest) {
            int its = kind[guest];
            if (gone[guest] || its == LATE && year % 2 != 0) {
                return 0;
            }
            if (its == SHADOW) {
                return v[guest];
            }
            int s = seat[guest];
            int fond = warmth(guest, SEAT_AFTER[s]) + warmth(guest, SEAT_AHEAD[s]);
            switch (its) {
                case WOULD: return fond / 2;
                case UNCLE:
                case LATE: return s == 0 ? fond + house.window : fond;
                case TOLD: return fond + rows[guest * PARTS + s % PARTS];
                default: return fond;
            }
        }

        /** What the NEIGHBOUR on a SEAT brings to a GUEST; 0: there is none. */
        private int warmth(int guest, int s) {
            int who = neighbourAt(s);
            if (who < 0) {
                return 0;
            }
            int vexed = IS_SISTER[kind[guest]] * IS_SISTER[kind[who]] * v[guest];
            return bond[guest * SEATS + who] - vexed;
        }

        int fondOfAll() {
            int fond = 0;
            for (int guest = 0; guest < size; guest++) {
                fond += fondOf(guest);
            }
            return fond;
        }

        int clashes() {
            int clashes = 0;
            for (int s = 0; s < SEATS; s++) {
                int one = neighbourAt(s);
                int other = neighbourAt(SEAT_AFTER[s]);
                if (one >= 0 && other >= 0 && (liking(one, other) < 0 || liking(other, one) < 0)) {
                    clashes++;
                }
            }
            return clashes;
        }

        void yearsGo(int n) {
            for (int i = 0; i < n; i++) {
                // no CUP bears on anybody's FOND, so each may drink as its turn comes
                for (int guest = 0; guest < size; guest++) {
                    if (!gone[guest] && !empty[guest] && fondOf(guest) >= house.thirst) {
                        empty[guest] = true;
                        used[guest]++;
                    }
                }
                year++;
                if (house.asksYear) {
                    reckon();
                }
            }
        }

        void pourAt(int s) {
            pot = s;
            if (sitter[s] >= 0) {
                empty[sitter[s]] = false;
            }
        }

        int emptyCups() {
            int cups = 0;
            for (int guest = 0; guest < size; guest++) {
                cups |= oneIf(empty[guest]) << guest;
            }
            return cups;
        }

        int usedOfAll() {
            int sum = 0;
            for (int guest = 0; guest < size; guest++) {
                sum += used[guest];
            }
            return sum;
        }

        int round() {
            return Math.min(stepsOn(), stepsBack());
        }

        int toward() {
            int steps = round();
            if (steps == 0) {
                return 0;
            }
            return stepsOn() == steps ? 1 : 2;
        }

        /** The fewest STEPS for THE POT, if it goes on at first; 0: there is nowhere to go. */
        private int stepsOn() {
            int fewest = 0;
            for (int on = 1; on < SEATS; on++) {
                int back = farthestBack(on);
                int steps = back == 0 ? on : on + on + back;
                fewest = fewest == 0 ? steps : Math.min(fewest, steps);
            }
            return farthestBack(0) == 0 ? 0 : fewest;
        }

        /** Likewise, if it goes back at first, and then on over what that leaves. */
        private int stepsBack() {
            int fewest = farthestBack(0);
            for (int on = 1; on < SEATS; on++) {
                int back = farthestBack(on);
                if (back > 0) {
                    fewest = Math.min(fewest, back + back + on);
                }
            }
            return fewest;
        }

        /** How far THE POT must go back, if going on brings it so far: to the first CUP beyond that. */
        private int farthestBack(int on) {
            for (int far = on + 1; far < SEATS; far++) {
                int who = sitter[(pot + far) % SEATS];
                if (who >= 0 && empty[who]) {
                    return SEATS - far;
                }
            }
            return 0;
        }
    }

    /** CLAUSES; each E as the steps in which a stack of answers works it off. */
    private static final class House {
        /** The places of what a TEST may ask of. */
        private static final int ONE = 0, OTHER = 1, ONES_KIND = 2, OTHERS_KIND = 3, ONES_V = 4, YEAR_DIGIT = 5;
        private static final int FACTS = 6;
        private static final int LESS = 0, SAME = 1, MORE = 2;
        /** Steps that are no TEST; those are 0 or more. */
        private static final int NOT = -1, AND = -2, OR = -3;

        /** No step stands for less than a byte of THE TEXT. */
        private final int[] steps = new int[MOST_BYTES];
        private int stepCount;
        private final int[] weight = new int[MOST_CLAUSES];
        private final int[] end = new int[MOST_CLAUSES];
        private int weightCount;
        private int thirst = 5;
        private int window = 6;
        private boolean asksYear;

        void clear() {
            stepCount = 0;
            weightCount = 0;
            thirst = 5;
            window = 6;
            asksYear = false;
        }

        void addStep(int step) {
            if (stepCount < steps.length) {
                steps[stepCount] = step;
                stepCount++;
            }
        }

        void addTest(int fact, int sign, int number) {
            asksYear = asksYear || fact == YEAR_DIGIT;
            addStep(fact << 16 | sign << 8 | number);
        }

        /** The steps since the last weight say whether this one counts. */
        void addWeight(int n) {
            if (weightCount < weight.length) {
                weight[weightCount] = n;
                end[weightCount] = stepCount;
                weightCount++;
            }
        }

        int liking(int[] facts) {
            int sum = 2;
            int from = 0;
            for (int c = 0; c < weightCount; c++) {
                if (holds(from, end[c], facts)) {
                    sum += weight[c];
                }
                from = end[c];
            }
            return sum;
        }

        /** Answers lie on a stack of bits, the newest lowest: 4 nested leave 11 there at most. */
        private boolean holds(int from, int to, int[] facts) {
            int stack = 0;
            for (int i = from; i < to; i++) {
                int newest = stack & 1;
                switch (steps[i]) {
                    case NOT: stack ^= 1; break;
                    case AND: stack = stack >> 1 & (newest | -2); break;
                    case OR: stack = stack >> 1 | newest; break;
                    default: stack = stack << 1 | oneIf(isSo(steps[i], facts)); break;
                }
            }
            return (stack & 1) != 0;
        }

        private static boolean isSo(int test, int[] facts) {
            int place = test >> 16;
            int fact = place >= 0 && place < facts.length ? facts[place] : 0;
            int number = test & 255;
            switch (test >> 8 & 255) {
                case LESS: return fact < number;
                case SAME: return fact == number;
                default: return fact > number;
            }
        }
    }

    /** Reads a HOUSE. Each part answers whether it is there; if not, at is the FAULT. */
    private static final class Reader {
        private House house;
        private byte[] text;
        private int length;
        private int at;
        private int number;

        /** The FAULT; -1: none. */
        int readInto(House into, byte[] from, int itsLength) {
            house = into;
            text = from;
            length = Math.min(itsLength, from.length);
            at = 0;
            house.clear();
            for (int clauses = 1; clauses <= MOST_CLAUSES; clauses++) {
                if (!isClause()) {
                    return at;
                }
                if (at >= length) {
                    return -1;
                }
                if (clauses == MOST_CLAUSES || !isSign(';')) {
                    return at;
                }
            }
            return at;
        }

        private boolean isClause() {
            int first = next();
            if (!isWord(wordFrom(first)) || !isNumber()) {
                return false;
            }
            int n = number;
            if (first == 't') {
                house.thirst = n;
            } else if (first == 'w') {
                house.window = n;
            } else if (isSign(' ') && isEither(0)) {
                house.addWeight(first == 'b' ? n : -n);
            } else {
                return false;
            }
            return true;
        }

        /** The one word that can begin so; any, if none can. */
        private static String wordFrom(int first) {
            switch (first) {
                case 'b': return "bear ";
                case 's': return "shun ";
                case 't': return "thirst ";
                default: return "window ";
            }
        }

        /** E, with its T: a loop stands for the rules' own return, so that just ( and ! nest. */
        private boolean isEither(int nested) {
            boolean isBehindAnd = false;
            boolean isBehindOr = false;
            for (int factors = 0; factors < MOST_BYTES; factors++) {
                if (!isFactor(nested)) {
                    return false;
                }
                if (isBehindAnd) {
                    house.addStep(House.AND);
                }
                isBehindAnd = isSign('&');
                if (isBehindAnd) {
                    continue;
                }
                if (isBehindOr) {
                    house.addStep(House.OR);
                }
                isBehindOr = isSign('|');
                if (!isBehindOr) {
                    return true;
                }
            }
            return false;
        }

        private boolean isFactor(int nested) {
            int sign = next();
            if (sign == '(' || sign == '!') {
                return nested < MOST_NESTED && isNest(sign, nested + 1);
            }
            int fact = factOf(sign);
            if (fact < 0) {
                return false;
            }
            at++;
            int compare = compareOf(next());
            if (compare < 0) {
                return false;
            }
            at++;
            if (!isNumber()) {
                return false;
            }
            house.addTest(fact, compare, number);
            return true;
        }

        /** What stands behind a ( or !, which counts among those nested. */
        private boolean isNest(int sign, int nested) {
            at++;
            if (sign == '(') {
                return isEither(nested) && isSign(')');
            }
            if (!isFactor(nested)) {
                return false;
            }
            house.addStep(House.NOT);
            return true;
        }

        private static int factOf(int letter) {
            switch (letter) {
                case 'p': return House.ONE;
                case 'q': return House.OTHER;
                case 'k': return House.ONES_KIND;
                case 'j': return House.OTHERS_KIND;
                case 'v': return House.ONES_V;
                case 'y': return House.YEAR_DIGIT;
                default: return -1;
            }
        }

        private static int compareOf(int sign) {
            switch (sign) {
                case '<': return House.LESS;
                case '=': return House.SAME;
                case '>': return House.MORE;
                default: return -1;
            }
        }

        private boolean isNumber() {
            int tens = next() - '0';
            if (!isDigit(tens)) {
                return false;
            }
            at++;
            int ones = next() - '0';
            if (!isDigit(ones)) {
                number = tens;
                return true;
            }
            at++;
            number = 10 * tens + ones;
            return true;
        }

        private boolean isWord(String word) {
            for (int i = 0; i < word.length(); i++) {
                if (!isSign(word.charAt(i))) {
                    return false;
                }
            }
            return true;
        }

        private boolean isSign(int sign) {
            if (next() != sign) {
                return false;
            }
            at++;
            return true;
        }

        /** -1: THE TEXT is at its end. */
        private int next() {
            return at >= 0 && at < length ? text[at] : -1;
        }
    }

    /** Looks for a PLACING on a table of its own to try on. */
    private static final class Placings {
        private final Table table;
        private final int[] seat = new int[SEATS];
        private int fond;
        private int clashes;
        private boolean isForPeace;
        private boolean isFirst;

        Placings(Table toTryOn) {
            table = toTryOn;
        }

        void find(Table from, boolean forPeace) {
            table.copyFrom(from);
            for (int s = 0; s < SEATS; s++) {
                table.sitter[s] = -1;
            }
            isForPeace = forPeace;
            isFirst = true;
            placeFrom(0);
        }

        /** Goes as deep as there are GUESTS; the rows come in their order, so that the first of several stays. */
        private void placeFrom(int guest) {
            if (guest >= table.size) {
                // BEST asks for no peace: there all PLACINGS are alike in it
                weigh(table.fondOfAll(), isForPeace ? table.clashes() : 0);
                return;
            }
            for (int s = 0; s < SEATS; s++) {
                placeOn(guest, s);
            }
        }

        private void placeOn(int guest, int s) {
            if (table.sitter[s] < 0) {
                table.place(guest, s);
                placeFrom(guest + 1);
                table.sitter[s] = -1;
            }
        }

        private void weigh(int itsFond, int itsClashes) {
            boolean isBetter = itsClashes < clashes || itsClashes == clashes && itsFond > fond;
            if (isFirst || isBetter) {
                isFirst = false;
                fond = itsFond;
                clashes = itsClashes;
                System.arraycopy(table.seat, 0, seat, 0, SEATS);
            }
        }
    }

    /** The BODIES, and THE TRACE of those that ran. */
    private static final class Acts {
        private static final int SIPS = 0, CHATS = 1, TELLS = 2, SORTS = 3;
        /** The body of each KIND for each act; 0: it has none. */
        private static final int[] BODIES = {
            10, 11, 12,
            0, 20, 0,
            30, 0, 0,
            0, 0, 40,
            50, 51, 0,
            0, 0, 60,
            71, 70, 0,
        };
        private static final int MOST_KEPT = 20;
        private static final int DEEPEST = 40;

        private final int[] trace = new int[MOST_KEPT];
        private int ran;
        private int itsKind;
        private int v;
        private int i;

        void forget() {
            ran = 0;
        }

        int kept() {
            return Math.min(ran, MOST_KEPT);
        }

        int begin(int kind, int itsV, int number, int act, int x) {
            forget();
            itsKind = kind;
            v = itsV;
            i = number;
            return own(act, x, 0);
        }

        private int own(int act, int x, int depth) {
            return from(itsKind, act, x, depth);
        }

        /** The body of a KIND, or of the next above that has one. */
        private int from(int kind, int act, int x, int depth) {
            int at = kind;
            for (int up = 0; up < KINDS && at > GUEST && BODIES[at * SORTS + act] == 0; up++) {
                at = KIND_ABOVE[at];
            }
            if (at < GUEST || depth > DEEPEST) {
                return 0;
            }
            return runBody(BODIES[at * SORTS + act], x, depth + 1);
        }

        private int runBody(int body, int x, int depth) {
            if (ran < MOST_KEPT) {
                trace[ran] = body;
            }
            ran++;
            switch (body) {
                case 10: return x + i;
                case 11: return own(SIPS, x, depth) - v;
                case 12: return own(CHATS, x, depth) * 2;
                case 20: return from(GUEST, CHATS, x, depth) ^ 6;
                case 30: return from(GUEST, SIPS, x * 3, depth);
                case 40: return from(GUEST, TELLS, x, depth) + own(CHATS, 1, depth);
                case 50: return -from(WOULD, SIPS, x, depth);
                case 51: return from(WOULD, CHATS, x + 1, depth);
                case 60: return from(UNCLE, TELLS, x - i, depth);
                case 70: return from(SISTER, CHATS, x, depth) + from(SISTER, SIPS, 2, depth);
                case 71: return from(SISTER, SIPS, x, depth) ^ v;
                default: return 0;
            }
        }
    }

    /** A row of items, each kept as the long that it reads as. */
    private static final class Tape {
        private final long[] items = new long[MOST_ITEMS];
        private int sort = NO_SORT;
        private int length;

        void become(int itsSort, int itsLength) {
            sort = itsSort;
            length = itsLength;
            for (int i = 0; i < MOST_ITEMS; i++) {
                items[i] = 0;
            }
        }

        boolean hasPlace(int i) {
            return i >= 0 && i < length;
        }

        boolean hasPlaces(int from, int n) {
            return from >= 0 && n >= 0 && from <= length - n;
        }

        void put(int i, long v) {
            switch (sort) {
                case BYTES: items[i] = (byte) v; break;
                case SHORTS: items[i] = (short) v; break;
                case INTS: items[i] = (int) v; break;
                case LONGS: items[i] = v; break;
                default: items[i] = oneIf(v != 0); break;
            }
        }
    }
}
