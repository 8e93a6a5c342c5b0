import java.util.NoSuchElementException;

/** A hunt in which nobody meets; ../shared/DOC.md says what each call answers. */
public final class HuntTable {
    public static final int NONE = -1;
    public static final int HIDDEN = -1000000;

    private static final int MOST_PLACES = 6;
    private static final int MOST_BANDS = 6;
    private static final int BASE = 10;
    private static final int MOST_START = 99;
    private static final int MOST_EVEN = 400;
    private static final int MOST_STEPS = 40;
    private static final int MOST_SHARERS = 10;

    private static final int SORT_HUNT = 0;
    private static final int SORT_WORTH = 1;

    private final Tape tape;
    private final HuntReader huntReader;
    private final WorthReader worthReader;
    private final Hunt hunt;
    private final Worths worths;
    private final Table table;
    private final Past past;
    private final Clock clock;
    private final OrderSearch orderSearch;
    private final Finds finds;
    private final HelperCount helperCount;

    public HuntTable() {
        tape = new Tape();
        huntReader = new HuntReader(tape);
        worthReader = new WorthReader(tape);
        hunt = new Hunt();
        worths = new Worths();
        table = new Table(hunt);
        past = new Past(hunt, table);
        clock = new Clock(hunt, table);
        orderSearch = new OrderSearch(hunt, table, clock, worths);
        finds = new Finds(hunt);
        helperCount = new HelperCount(hunt, table);
    }

    public int feed(int a, int b, int c, int d, int e) {
        int more = Tape.bytesIn(a) + Tape.bytesIn(b) + Tape.bytesIn(c) + Tape.bytesIn(d) + Tape.bytesIn(e);
        if (!tape.hasRoom(more)) {
            return NONE;
        }
        tape.add(a);
        tape.add(b);
        tape.add(c);
        tape.add(d);
        tape.add(e);
        return tape.length();
    }

    public boolean end(int n) {
        return tape.cut(n);
    }

    public int fault(int sort) {
        if (sort == SORT_HUNT) {
            return huntReader.read();
        }
        if (sort == SORT_WORTH) {
            return worthReader.read();
        }
        return -2;
    }

    public int text(int sort) {
        if (sort == SORT_HUNT && huntReader.read() == NONE) {
            tape.cut(0);
            hunt.copyFrom(huntReader.draft());
            table.reset();
            past.forget();
            finds.forget();
            return hunt.bands();
        }
        if (sort == SORT_WORTH && worths.hasRoom() && worthReader.read() == NONE) {
            tape.cut(0);
            return worths.keep(worthReader.code(), worthReader.size());
        }
        return NONE;
    }

    public int place(int place, int what) throws NoSuchElementException {
        if (!hunt.hasPlace(place) || what < 0 || what > 1) {
            throw new NoSuchElementException();
        }
        return what == 0 ? hunt.x(place) : hunt.y(place);
    }

    public int band(int band, int what) {
        if (!hunt.hasBand(band)) {
            return NONE;
        }
        if (what == 0) {
            return hunt.slow(band);
        }
        if (what == 1) {
            return table.digitsOf(band);
        }
        return what == 2 ? table.startOf(band) : NONE;
    }

    public int order(int band, int order) {
        if (!hunt.hasBand(band) || !table.isOrder(order)) {
            return NONE;
        }
        past.remember();
        table.putOrder(band, order);
        return past.acts();
    }

    public boolean start(int band, int minute) {
        if (!hunt.hasBand(band) || minute < 0 || minute > MOST_START) {
            return false;
        }
        table.putStart(band, minute);
        return true;
    }

    public boolean worth(int worth) {
        return worths.hold(worth);
    }

    public int undo() {
        if (past.acts() == 0) {
            return NONE;
        }
        past.undoLatest();
        return past.acts();
    }

    public int at(int band, int turn) {
        return table.placeOf(band, turn);
    }

    public int follows(int one, int other) {
        if (one == other || !hunt.hasBand(one) || !hunt.hasBand(other)) {
            return NONE;
        }
        return table.timesFollowed(one, other);
    }

    public int lawful() {
        if (!hunt.isTold()) {
            return NONE;
        }
        return table.keepsTheLaw() ? 1 : 0;
    }

    public int crowd(int what) {
        if (what < 0 || what > 2) {
            return NONE;
        }
        int turn = table.firstMeetingTurn();
        if (turn == NONE || what == 0) {
            return turn;
        }
        int place = table.firstMeetingPlace(turn);
        return what == 1 ? place : table.bandsAt(turn, place);
    }

    public int even(int n, int band, int turn) {
        if (n < 2 || n > MOST_EVEN || n % 2 != 0) {
            return NONE;
        }
        if (band < 0 || band >= n || turn < 0 || turn >= n) {
            return NONE;
        }
        return (band + evenTurn(n, turn)) % n;
    }

    private static int evenTurn(int n, int turn) {
        if (turn % 2 == 1) {
            return (turn + 1) / 2;
        }
        return turn == 0 ? 0 : n - turn / 2;
    }

    public int slips() {
        return hunt.isTold() ? table.pairsOfPlaces() : NONE;
    }

    public int well(int place, int i) {
        if (!hunt.hasPlace(place) || !hunt.hasBand(i)) {
            return NONE;
        }
        return table.comerTo(place, i);
    }

    public int sight() {
        return hunt.isTold() ? table.timesSeen() : NONE;
    }

    public int points(int band) {
        return hunt.hasBand(band) ? clock.pointsOf(band, worths) : HIDDEN;
    }

    public int comes(int band, int turn) {
        return hunt.hasBand(band) && hunt.hasPlace(turn) ? clock.minuteOf(band, turn) : NONE;
    }

    public int home(int band) {
        return hunt.hasBand(band) ? clock.minuteHome(band) : NONE;
    }

    public int clashes(int what) {
        if (!hunt.isTold() || what < 0 || what > 1) {
            return HIDDEN;
        }
        return what == 0 ? clock.clashingPairs() : clock.firstClash();
    }

    public int starts(int most, int what) {
        if (!hunt.isTold() || most < 0 || most >= BASE || what < 0 || what > 1) {
            return NONE;
        }
        if (hunt.bands() > Clock.MOST_STARTERS) {
            return HIDDEN;
        }
        clock.seekStarts(most);
        return what == 0 ? clock.leastSum() : clock.leastRow();
    }

    public int soonest(int band, int what) {
        if (!hunt.hasBand(band) || what < 0 || what > 1) {
            return NONE;
        }
        if (!orderSearch.seekSoonest(band)) {
            return NONE;
        }
        return what == 0 ? orderSearch.bestOrder() : orderSearch.bestValue();
    }

    public int rich(int band, int what) {
        if (!hunt.hasBand(band) || what < 0 || what > 1) {
            return HIDDEN;
        }
        if (!orderSearch.seekRichest(band)) {
            return HIDDEN;
        }
        return what == 0 ? orderSearch.bestOrder() : orderSearch.bestValue();
    }

    public int find(int band, int turn, int place, boolean is) {
        if (!hunt.hasBand(band) || !hunt.hasPlace(turn) || !hunt.hasPlace(place) || !finds.hasRoom()) {
            return NONE;
        }
        return finds.add(band, turn, place, is);
    }

    public int fits(int band) {
        return hunt.hasBand(band) ? finds.fittingOrders(band) : NONE;
    }

    public int tables(int i, int band) {
        if (!finds.isSmall()) {
            return HIDDEN;
        }
        if (i == NONE) {
            return finds.howManyTables();
        }
        return hunt.hasBand(band) ? finds.orderInTable(i, band) : NONE;
    }

    public int wrong(int band, int turn, int place, int what) {
        if (!hunt.hasBand(band) || !hunt.hasPlace(turn) || !hunt.hasPlace(place) || what < 0 || what > 1) {
            return NONE;
        }
        if (table.placeOf(band, turn) == place) {
            return NONE;
        }
        if (what == 0) {
            return table.bandsAt(turn, place);
        }
        return table.followsGoneWrong(band, turn, place);
    }

    public int helpers(int steps) {
        if (!hunt.isTold() || steps < 0 || steps > MOST_STEPS) {
            return NONE;
        }
        return helperCount.fewest(steps);
    }

    public int pieces(int n, int k, int what) {
        if (n < 1 || n > MOST_SHARERS || k < 1 || k > n || what < 0) {
            return NONE;
        }
        if (what == 0) {
            return howManySets(n, k - 1);
        }
        if (what == 1) {
            return howManySets(n - 1, k - 1);
        }
        int set = setByNumber(n, k - 1, what - 2);
        return set == NONE ? NONE : ((1 << n) - 1) & ~set;
    }

    private static int howManySets(int n, int size) {
        int sets = 0;
        for (int set = 0; set < 1 << n; set++) {
            if (Integer.bitCount(set) == size) {
                sets++;
            }
        }
        return sets;
    }

    private static int setByNumber(int n, int size, int number) {
        int ahead = 0;
        for (int set = 0; set < 1 << n; set++) {
            if (Integer.bitCount(set) == size) {
                if (ahead == number) {
                    return set;
                }
                ahead++;
            }
        }
        return NONE;
    }

    public int drawn(long seed) {
        if (!hunt.isTold()) {
            return NONE;
        }
        past.remember();
        table.drawOrders(seed);
        return past.acts();
    }

    public int image() {
        if (!hunt.isTold()) {
            return NONE;
        }
        past.takeImage();
        return past.acts();
    }

    public int back() {
        return past.hasImage() ? past.goBack() : NONE;
    }

    public int again() {
        return past.hasImage() ? past.likeImage() : NONE;
    }

    public int count(int what) {
        switch (what) {
            case 0:
                return hunt.places();
            case 1:
                return hunt.bands();
            case 2:
                return worths.size();
            case 3:
                return tape.length();
            case 4:
                return hunt.follow();
            case 5:
                return hunt.stay();
            case 6:
                return worths.holding();
            case 7:
                return finds.size();
            case 8:
                return past.acts();
            default:
                return HIDDEN;
        }
    }

    /** The bytes fed so far, and where a reader stands in them. */
    private static final class Tape {
        static final int MOST_BYTES = 160;
        private static final int BLANK = 32;
        // Bytes of 0 never come to the tape, so 0 can mean its end.
        static final int THE_END = 0;

        private final int[] bytes = new int[MOST_BYTES];
        private int length;
        private int position;

        static int bytesIn(int number) {
            int bytes = 0;
            for (int shift = 24; shift >= 0; shift -= 8) {
                if ((number >>> shift & 255) != 0) {
                    bytes++;
                }
            }
            return bytes;
        }

        boolean hasRoom(int more) {
            return length + more <= MOST_BYTES;
        }

        void add(int number) {
            for (int shift = 24; shift >= 0; shift -= 8) {
                int sign = number >>> shift & 255;
                if (sign != 0 && length < MOST_BYTES) {
                    bytes[length] = sign;
                    length++;
                }
            }
        }

        boolean cut(int n) {
            if (n < 0 || n > length) {
                return false;
            }
            length = n;
            return true;
        }

        int length() {
            return length;
        }

        int position() {
            return position;
        }

        void rewind() {
            position = 0;
        }

        /** The sign behind blanks, at which the position is then. */
        int nextSign() {
            while (position < length && bytes[position] == BLANK) {
                position++;
            }
            return position < length ? bytes[position] : THE_END;
        }

        void pass() {
            if (position < length) {
                position++;
            }
        }

        void stepBack() {
            if (position > 0) {
                position--;
            }
        }

        /** Passes a sign; another one is not passed, the position being at it. */
        boolean take(int sign) {
            if (nextSign() != sign) {
                return false;
            }
            pass();
            return true;
        }

        private static boolean isDigit(int sign) {
            return sign >= '0' && sign <= '9';
        }

        /** A number of so many digits at most; NONE where there is none, the position being where it goes wrong. */
        int takeNumber(int mostDigits) {
            if (!isDigit(nextSign())) {
                return NONE;
            }
            int number = 0;
            int bound = Math.min(length, position + mostDigits);
            while (position < bound && isDigit(bytes[position])) {
                number = number * BASE + bytes[position] - '0';
                position++;
            }
            return position < length && isDigit(bytes[position]) ? NONE : number;
        }
    }

    /** Places, bands and the law of a hunt; without a hunt all counts are 0. */
    private static final class Hunt {
        static final int ITEM_X = 0;
        static final int ITEM_Y = 1;
        static final int ITEM_SLOW = 2;
        static final int ITEM_FOLLOW = 3;
        static final int ITEM_STAY = 4;
        private static final int LEAST_PLACES = 2;
        private static final int FOLLOW_UNTOLD = 1;
        private static final int STAY_UNTOLD = 5;

        private final int[] xs = new int[MOST_PLACES];
        private final int[] ys = new int[MOST_PLACES];
        private final int[] slows = new int[MOST_BANDS];
        private int places;
        private int bands;
        private int follow;
        private int stay;

        /** Nothing but the law that holds where none is told. */
        void clear() {
            places = 0;
            bands = 0;
            follow = FOLLOW_UNTOLD;
            stay = STAY_UNTOLD;
        }

        void copyFrom(Hunt other) {
            places = other.places;
            bands = other.bands;
            follow = other.follow;
            stay = other.stay;
            System.arraycopy(other.xs, 0, xs, 0, MOST_PLACES);
            System.arraycopy(other.ys, 0, ys, 0, MOST_PLACES);
            System.arraycopy(other.slows, 0, slows, 0, MOST_BANDS);
        }

        boolean addPlace() {
            if (places == MOST_PLACES) {
                return false;
            }
            xs[places] = 0;
            ys[places] = 0;
            places++;
            return true;
        }

        boolean addBand() {
            if (bands == MOST_BANDS) {
                return false;
            }
            slows[bands] = 1;
            bands++;
            return true;
        }

        /** What an item says of the place or band that came last, or of the law. */
        void put(int item, int value) {
            if (item == ITEM_X && places > 0) {
                xs[places - 1] = value;
            } else if (item == ITEM_Y && places > 0) {
                ys[places - 1] = value;
            } else if (item == ITEM_SLOW && bands > 0) {
                slows[bands - 1] = value;
            } else if (item == ITEM_FOLLOW) {
                follow = value;
            } else if (item == ITEM_STAY) {
                stay = value;
            }
        }

        boolean isWhole() {
            return places >= LEAST_PLACES && bands >= 1;
        }

        boolean isTold() {
            return places > 0;
        }

        /** Turns are as many as places, so this asks for a turn too. */
        boolean hasPlace(int place) {
            return place >= 0 && place < places;
        }

        boolean hasBand(int band) {
            return band >= 0 && band < bands;
        }

        int places() {
            return places;
        }

        int bands() {
            return bands;
        }

        int follow() {
            return follow;
        }

        int stay() {
            return stay;
        }

        int x(int place) {
            return hasPlace(place) ? xs[place] : 0;
        }

        int y(int place) {
            return hasPlace(place) ? ys[place] : 0;
        }

        int slow(int band) {
            return hasBand(band) ? slows[band] : NONE;
        }

        /** Steps from one place to another; NONE stands for the gate, whose x and y are 0. */
        int steps(int from, int to) {
            return Math.abs(x(from) - x(to)) + Math.abs(y(from) - y(to));
        }
    }

    /**
     * Reads the tape as a hunt into a draft, so that a faulty text changes no hunt. Where a method that reads answers
     * false, the tape's position is the fault.
     */
    private static final class HuntReader {
        private static final int MOST_DIGITS = 2;
        private static final int MOST_ITEMS = 2;
        private static final int[] LEAST = {0, 0, 1, 0, 0};
        private static final int[] MOST = {20, 20, 5, 9, 30};

        private final Tape tape;
        private final Hunt draft = new Hunt();
        private boolean lawTold;

        HuntReader(Tape tape) {
            this.tape = tape;
        }

        Hunt draft() {
            return draft;
        }

        int read() {
            tape.rewind();
            draft.clear();
            lawTold = false;
            for (int clauses = 0; clauses < Tape.MOST_BYTES; clauses++) {
                if (!readClause()) {
                    return tape.position();
                }
                if (tape.nextSign() == Tape.THE_END) {
                    return draft.isWhole() ? NONE : tape.length();
                }
                if (!tape.take(';')) {
                    return tape.position();
                }
            }
            return tape.position();
        }

        private boolean readClause() {
            int kind = tape.nextSign();
            if (!addClause(kind)) {
                return false;
            }
            tape.pass();
            return readItems(kind);
        }

        private boolean addClause(int kind) {
            if (kind == 'p') {
                return draft.addPlace();
            }
            if (kind == 'b') {
                return draft.addBand();
            }
            if (kind != 'l' || lawTold) {
                return false;
            }
            lawTold = true;
            return true;
        }

        /** Stops at what is no new item: the caller then finds the fault there. */
        private boolean readItems(int kind) {
            int told = 0;
            for (int items = 0; items < MOST_ITEMS; items++) {
                int item = itemOf(kind, tape.nextSign());
                if (item == NONE || (told >> item & 1) == 1) {
                    return true;
                }
                told |= 1 << item;
                tape.pass();
                if (!readValue(item)) {
                    return false;
                }
            }
            return true;
        }

        private static int itemOf(int kind, int letter) {
            if (kind == 'p' && letter == 'x') {
                return Hunt.ITEM_X;
            }
            if (kind == 'p' && letter == 'y') {
                return Hunt.ITEM_Y;
            }
            if (kind == 'b' && letter == 's') {
                return Hunt.ITEM_SLOW;
            }
            if (kind == 'l' && letter == 'f') {
                return Hunt.ITEM_FOLLOW;
            }
            return kind == 'l' && letter == 'k' ? Hunt.ITEM_STAY : NONE;
        }

        private boolean readValue(int item) {
            int value = tape.takeNumber(MOST_DIGITS);
            if (value == NONE) {
                return false;
            }
            if (value < LEAST[item] || value > MOST[item]) {
                tape.stepBack();
                return false;
            }
            draft.put(item, value);
            return true;
        }
    }

    /**
     * Reads the tape as a worth and writes it as a row of codes, operands ahead of their sign. Where a method that reads
     * answers false, the tape's position is the fault.
     */
    private static final class WorthReader {
        private static final int MOST_DIGITS = 4;
        private static final int MOST_WITHIN = 6;

        private final Tape tape;
        // The tape's length is enough: every code has a byte of its own, a clause's stop its y, a jump its ?.
        private final int[] code = new int[Tape.MOST_BYTES];
        private int size;

        WorthReader(Tape tape) {
            this.tape = tape;
        }

        int[] code() {
            return code;
        }

        int size() {
            return size;
        }

        int read() {
            tape.rewind();
            size = 0;
            for (int clauses = 0; clauses < Tape.MOST_BYTES; clauses++) {
                if (!readClause()) {
                    return tape.position();
                }
                if (tape.nextSign() == Tape.THE_END) {
                    return NONE;
                }
                if (!tape.take(';')) {
                    return tape.position();
                }
            }
            return tape.position();
        }

        private boolean write(int word) {
            if (size < code.length) {
                code[size] = word;
                size++;
            }
            return true;
        }

        private boolean readClause() {
            if (!tape.take('y') || !tape.take(':')) {
                return false;
            }
            int sign = tape.nextSign();
            if (sign == '!' || sign == '(') {
                return readCondition(0) && readWhatFollowsCondition();
            }
            if (!readSum(0)) {
                return false;
            }
            if (!isComparison(tape.nextSign())) {
                return write(Worths.STOP);
            }
            return readComparison(0) && readMoreUnits(0) && readMoreTruths(0) && readWhatFollowsCondition();
        }

        private boolean readWhatFollowsCondition() {
            if (!tape.take('?')) {
                return false;
            }
            int jump = size;
            write(Worths.JUMP);
            if (!readSum(0) || !write(Worths.STOP)) {
                return false;
            }
            if (jump < code.length) {
                code[jump] = Worths.JUMP + size;
            }
            return true;
        }

        private boolean readCondition(int within) {
            return readTruth(within) && readMoreTruths(within);
        }

        private boolean readMoreTruths(int within) {
            for (int more = 0; more < Tape.MOST_BYTES && tape.take('|'); more++) {
                if (!readTruth(within)) {
                    return false;
                }
                write(Worths.SIGN + '|');
            }
            return true;
        }

        private boolean readTruth(int within) {
            return readUnit(within) && readMoreUnits(within);
        }

        private boolean readMoreUnits(int within) {
            for (int more = 0; more < Tape.MOST_BYTES && tape.take('&'); more++) {
                if (!readUnit(within)) {
                    return false;
                }
                write(Worths.SIGN + '&');
            }
            return true;
        }

        private boolean readUnit(int within) {
            int sign = tape.nextSign();
            if (sign != '!' && sign != '(') {
                return readSum(within) && readComparison(within);
            }
            if (within >= MOST_WITHIN) {
                return false;
            }
            tape.pass();
            if (sign == '!') {
                return readUnit(within + 1) && write(Worths.SIGN + '!');
            }
            return readCondition(within + 1) && tape.take(')');
        }

        private static boolean isComparison(int sign) {
            return sign == '=' || sign == '<' || sign == '>';
        }

        private boolean readComparison(int within) {
            int sign = tape.nextSign();
            if (!isComparison(sign)) {
                return false;
            }
            tape.pass();
            return readSum(within) && write(Worths.SIGN + sign);
        }

        private boolean readSum(int within) {
            if (!readTerm(within)) {
                return false;
            }
            for (int terms = 1; terms < Tape.MOST_BYTES; terms++) {
                int sign = tape.nextSign();
                if (sign != '+' && sign != '-') {
                    return true;
                }
                tape.pass();
                if (!readTerm(within)) {
                    return false;
                }
                write(Worths.SIGN + sign);
            }
            return true;
        }

        private boolean readTerm(int within) {
            if (!readAtom(within)) {
                return false;
            }
            for (int atoms = 1; atoms < Tape.MOST_BYTES; atoms++) {
                int sign = tape.nextSign();
                if (sign != '*' && sign != '/') {
                    return true;
                }
                tape.pass();
                if (!readAtom(within)) {
                    return false;
                }
                write(Worths.SIGN + sign);
            }
            return true;
        }

        private boolean readAtom(int within) {
            int sign = tape.nextSign();
            int letter = Worths.letterOf(sign);
            if (letter != NONE) {
                tape.pass();
                return write(Worths.LETTER + letter);
            }
            if (sign == '[' && within < MOST_WITHIN) {
                tape.pass();
                return readSum(within + 1) && tape.take(']');
            }
            int number = tape.takeNumber(MOST_DIGITS);
            return number != NONE && write(number);
        }
    }

    /** The worths told, as rows of codes, and the one that holds. */
    private static final class Worths {
        static final int MOST_WORTHS = 4;
        static final int LETTERS = 5;
        // Codes below LETTER are numbers themselves.
        static final int LETTER = 10000;
        static final int SIGN = 20000;
        static final int JUMP = 30000;
        static final int STOP = 40000;
        private static final int BOUND = 1000000;
        // Six of ( [ ! within one another keep no more than some twenty numbers waiting.
        private static final int MOST_WAITING = 40;

        private final int[][] codes = new int[MOST_WORTHS][Tape.MOST_BYTES];
        private final int[] sizes = new int[MOST_WORTHS];
        private final int[] waiting = new int[MOST_WAITING];
        private final int[] letters = new int[LETTERS];
        private int size;
        private int holding = NONE;

        static int letterOf(int sign) {
            switch (sign) {
                case 't':
                    return 0;
                case 'p':
                    return 1;
                case 'b':
                    return 2;
                case 'm':
                    return 3;
                case 'd':
                    return 4;
                default:
                    return NONE;
            }
        }

        boolean hasRoom() {
            return size < MOST_WORTHS;
        }

        int size() {
            return size;
        }

        int holding() {
            return holding;
        }

        int keep(int[] code, int codeSize) {
            if (size >= MOST_WORTHS || codeSize < 0 || codeSize > code.length || codeSize > Tape.MOST_BYTES) {
                return NONE;
            }
            System.arraycopy(code, 0, codes[size], 0, codeSize);
            sizes[size] = codeSize;
            size++;
            return size - 1;
        }

        boolean hold(int worth) {
            if (worth < NONE || worth >= size) {
                return false;
            }
            holding = worth;
            return true;
        }

        int valueOf(int turn, int place, int band, int minute, int far) {
            if (holding < 0 || holding >= size) {
                return 0;
            }
            letters[0] = turn;
            letters[1] = place;
            letters[2] = band;
            letters[3] = minute;
            letters[4] = far;
            return run(codes[holding], Math.min(sizes[holding], codes[holding].length));
        }

        private int run(int[] code, int codeSize) {
            int waits = 0;
            int next = 0;
            for (int done = 0; done < codeSize && next < codeSize; done++) {
                int word = code[next];
                next++;
                if (word < SIGN) {
                    if (waits >= MOST_WAITING) {
                        return 0;
                    }
                    waiting[waits] = word < LETTER ? word : letterValue(word - LETTER);
                    waits++;
                } else if (waits == 0) {
                    return 0;
                } else if (word < JUMP) {
                    waits = join(word - SIGN, waits);
                } else {
                    waits--;
                    if (word == STOP) {
                        return waiting[waits];
                    }
                    if (waiting[waits] == 0) {
                        next = Math.max(next, word - JUMP);
                    }
                }
            }
            return 0;
        }

        private int letterValue(int letter) {
            return letter >= 0 && letter < LETTERS ? letters[letter] : 0;
        }

        /** Puts what a sign makes of the last that wait in their place: how many wait then. */
        private int join(int sign, int waits) {
            int last = waits - 1;
            if (sign == '!') {
                waiting[last] = 1 - waiting[last];
                return waits;
            }
            if (last == 0) {
                return 0;
            }
            waiting[last - 1] = joined(sign, waiting[last - 1], waiting[last]);
            return last;
        }

        private static int joined(int sign, int left, int right) {
            switch (sign) {
                case '=':
                    return left == right ? 1 : 0;
                case '<':
                    return left < right ? 1 : 0;
                case '>':
                    return left > right ? 1 : 0;
                case '&':
                    return left & right;
                case '|':
                    return left | right;
                case '+':
                    return bounded((long) left + right);
                case '-':
                    return bounded((long) left - right);
                case '*':
                    return bounded((long) left * right);
                default:
                    return right == 0 ? 0 : bounded((long) left / right);
            }
        }

        private static int bounded(long value) {
            return value > BOUND ? BOUND : value < -BOUND ? -BOUND : (int) value;
        }
    }

    /** The orders of all bands and their starts. */
    private static final class Table {
        private static final long FACTOR = 6364136223846793005L;
        private static final long ADDEND = 1442695040888963407L;
        private static final int UNUSED_BITS = 33;

        private final Hunt hunt;
        private final int[][] orders = new int[MOST_BANDS][MOST_PLACES];
        private final int[] starts = new int[MOST_BANDS];
        private long draws;

        Table(Hunt hunt) {
            this.hunt = hunt;
        }

        void reset() {
            int places = hunt.places();
            for (int band = 0; band < hunt.bands(); band++) {
                starts[band] = 0;
                for (int turn = 0; turn < places; turn++) {
                    orders[band][turn] = (turn + band) % places;
                }
            }
        }

        int placeOf(int band, int turn) {
            return hunt.hasBand(band) && hunt.hasPlace(turn) ? orders[band][turn] : NONE;
        }

        int startOf(int band) {
            return hunt.hasBand(band) ? starts[band] : NONE;
        }

        void putStart(int band, int minute) {
            if (hunt.hasBand(band)) {
                starts[band] = minute;
            }
        }

        int digitsOf(int band) {
            int digits = 0;
            for (int turn = 0; turn < hunt.places(); turn++) {
                digits = digits * BASE + placeOf(band, turn);
            }
            return digits;
        }

        boolean isOrder(int digits) {
            int rest = digits;
            int seen = 0;
            for (int turn = 0; turn < hunt.places(); turn++) {
                int place = rest % BASE;
                if (!hunt.hasPlace(place) || (seen >> place & 1) == 1) {
                    return false;
                }
                seen |= 1 << place;
                rest /= BASE;
            }
            return rest == 0;
        }

        void putOrder(int band, int digits) {
            if (!hunt.hasBand(band)) {
                return;
            }
            int rest = digits;
            for (int turn = hunt.places() - 1; turn >= 0; turn--) {
                orders[band][turn] = rest % BASE;
                rest /= BASE;
            }
        }

        /** Bands (bits) that are by their orders at a place in a turn. */
        int bandsAt(int turn, int place) {
            int bands = 0;
            for (int band = 0; band < hunt.bands(); band++) {
                if (placeOf(band, turn) == place) {
                    bands |= 1 << band;
                }
            }
            return bands;
        }

        int firstMeetingPlace(int turn) {
            for (int place = 0; place < hunt.places(); place++) {
                if (Integer.bitCount(bandsAt(turn, place)) > 1) {
                    return place;
                }
            }
            return NONE;
        }

        int firstMeetingTurn() {
            for (int turn = 0; turn < hunt.places(); turn++) {
                if (firstMeetingPlace(turn) != NONE) {
                    return turn;
                }
            }
            return NONE;
        }

        int timesFollowed(int one, int other) {
            int times = 0;
            for (int turn = 1; turn < hunt.places(); turn++) {
                if (placeOf(one, turn) == placeOf(other, turn - 1)) {
                    times++;
                }
            }
            return times;
        }

        boolean keepsTheLaw() {
            for (int one = 0; one < hunt.bands(); one++) {
                for (int other = 0; other < hunt.bands(); other++) {
                    if (one != other && timesFollowed(one, other) > hunt.follow()) {
                        return false;
                    }
                }
            }
            return firstMeetingTurn() == NONE;
        }

        /** How often a band follows others, if in one turn it goes to another place. */
        int followsGoneWrong(int band, int wrongTurn, int wrongPlace) {
            int times = 0;
            for (int turn = 1; turn < hunt.places(); turn++) {
                int place = turn == wrongTurn ? wrongPlace : placeOf(band, turn);
                int others = bandsAt(turn - 1, place) & ~(1 << band);
                times += Integer.bitCount(others);
            }
            return times;
        }

        int pairsOfPlaces() {
            long told = 0;
            for (int band = 0; band < hunt.bands(); band++) {
                for (int turn = 1; turn < hunt.places(); turn++) {
                    told |= 1L << placeOf(band, turn - 1) * MOST_PLACES + placeOf(band, turn);
                }
            }
            return Long.bitCount(told);
        }

        int comerTo(int place, int number) {
            int ahead = 0;
            for (int turn = 0; turn < hunt.places(); turn++) {
                for (int band = 0; band < hunt.bands(); band++) {
                    if (placeOf(band, turn) == place) {
                        if (ahead == number) {
                            return band;
                        }
                        ahead++;
                    }
                }
            }
            return NONE;
        }

        int timesSeen() {
            int times = 0;
            for (int one = 0; one < hunt.bands(); one++) {
                for (int other = one + 1; other < hunt.bands(); other++) {
                    for (int turn = 0; turn < hunt.places(); turn++) {
                        if (inOneLine(placeOf(one, turn), placeOf(other, turn))) {
                            times++;
                        }
                    }
                }
            }
            return times;
        }

        private boolean inOneLine(int one, int other) {
            return one != other && (hunt.x(one) == hunt.x(other) || hunt.y(one) == hunt.y(other));
        }

        void drawOrders(long seed) {
            draws = seed;
            for (int band = 0; band < hunt.bands(); band++) {
                drawOrder(orders[band]);
            }
        }

        private void drawOrder(int[] order) {
            int places = Math.min(hunt.places(), order.length);
            for (int place = 0; place < places; place++) {
                order[place] = place;
            }
            for (int i = places - 1; i >= 1; i--) {
                int j = nextDraw(i + 1);
                int kept = order[i];
                order[i] = order[j];
                order[j] = kept;
            }
        }

        private int nextDraw(int bound) {
            draws = draws * FACTOR + ADDEND;
            return bound <= 0 ? 0 : (int) ((draws >>> UNUSED_BITS) % bound);
        }
    }

    /** What can come again: orders ahead of the latest acts, and the image. */
    private static final class Past {
        private static final int MOST_ACTS = 40;

        private final Hunt hunt;
        private final Table table;
        // A ring: an act beyond the most takes the room of the oldest.
        private final int[][] acts = new int[MOST_ACTS][MOST_BANDS];
        private int nextRow;
        private int size;
        private final int[] imageOrders = new int[MOST_BANDS];
        private final int[] imageStarts = new int[MOST_BANDS];
        private boolean hasImage;

        Past(Hunt hunt, Table table) {
            this.hunt = hunt;
            this.table = table;
        }

        void forget() {
            size = 0;
            hasImage = false;
        }

        int acts() {
            return size;
        }

        private void keepOrders(int[] row) {
            for (int band = 0; band < hunt.bands() && band < row.length; band++) {
                row[band] = table.digitsOf(band);
            }
        }

        private void bringOrders(int[] row) {
            for (int band = 0; band < hunt.bands() && band < row.length; band++) {
                table.putOrder(band, row[band]);
            }
        }

        void remember() {
            keepOrders(acts[nextRow]);
            nextRow = (nextRow + 1) % MOST_ACTS;
            size = Math.min(size + 1, MOST_ACTS);
        }

        void undoLatest() {
            if (size == 0) {
                return;
            }
            nextRow = (nextRow + MOST_ACTS - 1) % MOST_ACTS;
            size--;
            bringOrders(acts[nextRow]);
        }

        void takeImage() {
            hasImage = true;
            keepOrders(imageOrders);
            for (int band = 0; band < hunt.bands(); band++) {
                imageStarts[band] = table.startOf(band);
            }
        }

        boolean hasImage() {
            return hasImage;
        }

        int goBack() {
            bringOrders(imageOrders);
            for (int band = 0; band < hunt.bands(); band++) {
                table.putStart(band, imageStarts[band]);
            }
            size = 0;
            return size;
        }

        int likeImage() {
            int alike = 0;
            for (int band = 0; band < hunt.bands(); band++) {
                int rest = imageOrders[band];
                for (int turn = hunt.places() - 1; turn >= 0; turn--) {
                    if (rest % BASE == table.placeOf(band, turn)) {
                        alike++;
                    }
                    rest /= BASE;
                }
            }
            return alike;
        }
    }

    /** Minutes: when bands come, who clashes, and starts by which none does. */
    private static final class Clock {
        static final int MOST_STARTERS = 4;
        private static final int MOST_APART = BASE - 1;

        private final Hunt hunt;
        private final Table table;
        // The minute at which each band comes to each place.
        private final int[][] cameAt = new int[MOST_BANDS][MOST_PLACES];
        // Of two bands: bit MOST_APART + how much later the one starts, if they clash then.
        private final int[][] clashBits = new int[MOST_STARTERS][MOST_STARTERS];
        private final int[] row = new int[MOST_STARTERS];
        private int mostStart;
        private int leastSum;
        private int leastRow;

        Clock(Hunt hunt, Table table) {
            this.hunt = hunt;
            this.table = table;
        }

        /** The minutes that a band needs from one place (NONE: the gate) to another. */
        int wayOf(int band, int from, int to) {
            return hunt.steps(from, to) * hunt.slow(band);
        }

        int minuteOf(int band, int turn) {
            int minute = table.startOf(band);
            int from = NONE;
            for (int i = 0; i <= turn && i < hunt.places(); i++) {
                int to = table.placeOf(band, i);
                minute += wayOf(band, from, to) + (i == 0 ? 0 : hunt.stay());
                from = to;
            }
            return minute;
        }

        int minuteHome(int band) {
            int last = hunt.places() - 1;
            return minuteOf(band, last) + hunt.stay() + wayOf(band, table.placeOf(band, last), NONE);
        }

        int pointsOf(int band, Worths worths) {
            int points = 0;
            int minute = table.startOf(band);
            int from = NONE;
            for (int turn = 0; turn < hunt.places(); turn++) {
                int to = table.placeOf(band, turn);
                minute += wayOf(band, from, to);
                points += worths.valueOf(turn, to, band, minute, hunt.steps(from, to));
                minute += hunt.stay();
                from = to;
            }
            return points;
        }

        /** To be called ahead of whatever looks at cameAt. */
        void lookWhoComesWhen() {
            for (int band = 0; band < hunt.bands(); band++) {
                int minute = table.startOf(band);
                int from = NONE;
                for (int turn = 0; turn < hunt.places(); turn++) {
                    int to = table.placeOf(band, turn);
                    minute += wayOf(band, from, to);
                    if (hunt.hasPlace(to)) {
                        cameAt[band][to] = minute;
                    }
                    minute += hunt.stay();
                    from = to;
                }
            }
        }

        /** Whether a band that comes to a place at a minute clashes there with any other. */
        boolean clashesThere(int band, int place, int minute) {
            for (int other = 0; other < hunt.bands() && hunt.hasPlace(place); other++) {
                if (other != band && Math.abs(cameAt[other][place] - minute) < hunt.stay()) {
                    return true;
                }
            }
            return false;
        }

        /** The first minute at which two bands clash, NONE if they never do. */
        private int clashOf(int one, int other) {
            int first = NONE;
            for (int place = 0; place < hunt.places(); place++) {
                int a = cameAt[one][place];
                int b = cameAt[other][place];
                int minute = Math.max(a, b);
                if (Math.abs(a - b) < hunt.stay() && (first == NONE || minute < first)) {
                    first = minute;
                }
            }
            return first;
        }

        int clashingPairs() {
            lookWhoComesWhen();
            int pairs = 0;
            for (int one = 0; one < hunt.bands(); one++) {
                for (int other = one + 1; other < hunt.bands(); other++) {
                    if (clashOf(one, other) != NONE) {
                        pairs++;
                    }
                }
            }
            return pairs;
        }

        int firstClash() {
            lookWhoComesWhen();
            int first = NONE;
            for (int one = 0; one < hunt.bands(); one++) {
                for (int other = one + 1; other < hunt.bands(); other++) {
                    int minute = clashOf(one, other);
                    if (minute != NONE && (first == NONE || minute < first)) {
                        first = minute;
                    }
                }
            }
            return first;
        }

        int leastSum() {
            return leastSum;
        }

        int leastRow() {
            return leastRow;
        }

        void seekStarts(int most) {
            lookWhoComesWhen();
            mostStart = most;
            leastSum = NONE;
            leastRow = NONE;
            for (int one = 0; one < hunt.bands() && one < MOST_STARTERS; one++) {
                for (int other = 0; other < one; other++) {
                    clashBits[one][other] = clashesByStarts(one, other);
                }
            }
            seekStartOf(0, 0, 0);
        }

        private int clashesByStarts(int one, int other) {
            int bits = 0;
            for (int place = 0; place < hunt.places(); place++) {
                int oneNeeds = cameAt[one][place] - table.startOf(one);
                int otherNeeds = cameAt[other][place] - table.startOf(other);
                for (int later = -MOST_APART; later <= MOST_APART; later++) {
                    if (Math.abs(oneNeeds + later - otherNeeds) < hunt.stay()) {
                        bits |= 1 << MOST_APART + later;
                    }
                }
            }
            return bits;
        }

        /** Rows are tried rising, so that only a lower sum takes the place of one that was found. */
        private void seekStartOf(int band, int sum, int digits) {
            if (leastSum != NONE && sum >= leastSum) {
                return;
            }
            if (band >= hunt.bands() || band >= MOST_STARTERS) {
                leastSum = sum;
                leastRow = digits;
                return;
            }
            for (int minute = 0; minute <= mostStart; minute++) {
                if (startsApart(band, minute)) {
                    row[band] = minute;
                    seekStartOf(band + 1, sum + minute, digits * BASE + minute);
                }
            }
        }

        private boolean startsApart(int band, int minute) {
            for (int other = 0; other < band; other++) {
                int later = minute - row[other];
                if ((clashBits[band][other] >> MOST_APART + later & 1) == 1) {
                    return false;
                }
            }
            return true;
        }
    }

    /** The best order of one band, all others going as they do. */
    private static final class OrderSearch {
        private final Hunt hunt;
        private final Table table;
        private final Clock clock;
        private final Worths worths;
        // Places (bits) where others are in each turn.
        private final int[] taken = new int[MOST_PLACES];
        private int band;
        private boolean found;
        private int bestOrder;
        private int bestValue;

        OrderSearch(Hunt hunt, Table table, Clock clock, Worths worths) {
            this.hunt = hunt;
            this.table = table;
            this.clock = clock;
            this.worths = worths;
        }

        int bestOrder() {
            return bestOrder;
        }

        int bestValue() {
            return bestValue;
        }

        private void keep(int order, int value) {
            found = true;
            bestOrder = order;
            bestValue = value;
        }

        boolean seekSoonest(int seeker) {
            band = seeker;
            found = false;
            clock.lookWhoComesWhen();
            goSoon(0, NONE, table.startOf(seeker), 0, 0);
            return found;
        }

        /** Orders are tried rising, so that only a better one takes the place of one that was found. */
        private void goSoon(int turn, int from, int leaves, int been, int order) {
            if (turn >= hunt.places()) {
                int home = leaves + clock.wayOf(band, from, NONE);
                if (!found || home < bestValue) {
                    keep(order, home);
                }
                return;
            }
            for (int to = 0; to < hunt.places(); to++) {
                int comes = leaves + clock.wayOf(band, from, to);
                boolean tooLate = found && comes + hunt.stay() >= bestValue;
                if ((been >> to & 1) == 0 && !tooLate && !clock.clashesThere(band, to, comes)) {
                    goSoon(turn + 1, to, comes + hunt.stay(), been | 1 << to, order * BASE + to);
                }
            }
        }

        boolean seekRichest(int seeker) {
            band = seeker;
            found = false;
            for (int turn = 0; turn < hunt.places(); turn++) {
                taken[turn] = placesOfOthers(turn);
            }
            goRich(0, NONE, table.startOf(seeker), 0, 0, 0);
            return found;
        }

        private int placesOfOthers(int turn) {
            int places = 0;
            for (int other = 0; other < hunt.bands(); other++) {
                if (other != band) {
                    places |= 1 << table.placeOf(other, turn);
                }
            }
            return places;
        }

        private void goRich(int turn, int from, int leaves, int been, int order, int points) {
            if (turn >= hunt.places() || turn >= MOST_PLACES) {
                if (!found || points > bestValue) {
                    keep(order, points);
                }
                return;
            }
            int shut = been | taken[turn];
            for (int to = 0; to < hunt.places(); to++) {
                if ((shut >> to & 1) == 0) {
                    int far = hunt.steps(from, to);
                    int comes = leaves + far * hunt.slow(band);
                    int more = worths.valueOf(turn, to, band, comes, far);
                    goRich(turn + 1, to, comes + hunt.stay(), been | 1 << to, order * BASE + to, points + more);
                }
            }
        }
    }

    /** What is found, the orders that fit it and the lawful tables by which it is so. */
    private static final class Finds {
        private static final int MOST_FINDS = 20;
        private static final int MOST_SIDE = 5;
        private static final int MOST_TABLES = 1000;

        private final Hunt hunt;
        // Places (bits) that are left of what is found, of each band in each turn.
        private final int[][] left = new int[MOST_BANDS][MOST_PLACES];
        private final int[] ways = new int[1 << MOST_PLACES];
        private int size;

        // The orders of all bands, table after table; made when first asked for, as few hunts ask.
        private int[] tableOrders;
        private boolean tablesKnown;
        private int tableCount;
        private int mostTables;
        // As left, less what the search itself rules out.
        private final int[][] open = new int[MOST_SIDE][MOST_SIDE];
        private final int[] rising = new int[MOST_SIDE];
        private final int[] placesUsed = new int[MOST_SIDE];
        private final int[] turnUsed = new int[MOST_SIDE];
        // By turn and place: the band there, NONE without.
        private final int[][] who = new int[MOST_SIDE][MOST_SIDE];
        private final int[][] followed = new int[MOST_SIDE][MOST_SIDE];

        Finds(Hunt hunt) {
            this.hunt = hunt;
        }

        void forget() {
            size = 0;
            tablesKnown = false;
            for (int band = 0; band < hunt.bands(); band++) {
                for (int turn = 0; turn < hunt.places(); turn++) {
                    left[band][turn] = (1 << hunt.places()) - 1;
                }
            }
        }

        boolean hasRoom() {
            return size < MOST_FINDS;
        }

        int size() {
            return size;
        }

        int add(int band, int turn, int place, boolean is) {
            if (hunt.hasBand(band) && hunt.hasPlace(turn)) {
                left[band][turn] &= is ? 1 << place : ~(1 << place);
                size++;
                tablesKnown = false;
            }
            return size;
        }

        int fittingOrders(int band) {
            return hunt.hasBand(band) ? waysThrough(left[band]) : 0;
        }

        /** By sets of places rising: in how many ways a set can be gone through in the first turns. */
        private int waysThrough(int[] allowed) {
            int all = (1 << hunt.places()) - 1;
            ways[0] = 1;
            for (int set = 1; set <= all; set++) {
                int last = set & allowed[Integer.bitCount(set) - 1];
                ways[set] = 0;
                for (int place = 0; place < hunt.places(); place++) {
                    if ((last >> place & 1) == 1) {
                        ways[set] += ways[set ^ 1 << place];
                    }
                }
            }
            return ways[all];
        }

        boolean isSmall() {
            return hunt.isTold() && hunt.places() <= MOST_SIDE && hunt.bands() <= MOST_SIDE;
        }

        int howManyTables() {
            seekTables();
            return tableCount;
        }

        int orderInTable(int number, int band) {
            seekTables();
            if (number < 0 || number >= tableCount || band < 0 || band >= MOST_SIDE || tableOrders == null) {
                return NONE;
            }
            return tableOrders[number * MOST_SIDE + band];
        }

        private void seekTables() {
            if (tablesKnown || !isSmall()) {
                return;
            }
            if (tableOrders == null) {
                tableOrders = new int[MOST_TABLES * MOST_SIDE];
            }
            clearSearch();
            if (someAreLawful()) {
                tableCount = 0;
                openWhatIsLeft();
                fillIfItCanBe(MOST_TABLES);
            }
            tablesKnown = true;
        }

        /**
         * Whether there are lawful tables whatever is found. The law does not look at which place is which, so one with
         * band 0 going by numbers stands for all: a long search that must end with nothing is spared.
         */
        private boolean someAreLawful() {
            for (int band = 0; band < hunt.bands(); band++) {
                for (int turn = 0; turn < hunt.places(); turn++) {
                    open[band][turn] = band == 0 ? 1 << turn : (1 << hunt.places()) - 1;
                }
            }
            fillIfItCanBe(1);
            return tableCount > 0;
        }

        private void openWhatIsLeft() {
            for (int band = 0; band < hunt.bands(); band++) {
                for (int turn = 0; turn < hunt.places(); turn++) {
                    open[band][turn] = left[band][turn];
                }
            }
        }

        private void fillIfItCanBe(int most) {
            mostTables = most;
            shutWhereOthersMustBe();
            for (int band = 0; band < hunt.bands(); band++) {
                if (waysThrough(open[band]) == 0) {
                    return;
                }
            }
            fill(0, 0);
        }

        private void shutWhereOthersMustBe() {
            boolean more = true;
            for (int round = 0; round < MOST_SIDE * MOST_SIDE && more; round++) {
                more = false;
                for (int band = 0; band < hunt.bands(); band++) {
                    for (int turn = 0; turn < hunt.places(); turn++) {
                        if (Integer.bitCount(open[band][turn]) == 1 && shutElsewhere(band, turn)) {
                            more = true;
                        }
                    }
                }
            }
        }

        /** Where a band must be in a turn, no other is then and it is in no other turn. */
        private boolean shutElsewhere(int band, int turn) {
            int must = open[band][turn];
            int shut = 0;
            for (int other = 0; other < hunt.bands(); other++) {
                if (other != band) {
                    shut |= open[other][turn] & must;
                    open[other][turn] &= ~must;
                }
            }
            for (int other = 0; other < hunt.places(); other++) {
                if (other != turn) {
                    shut |= open[band][other] & must;
                    open[band][other] &= ~must;
                }
            }
            return shut != 0;
        }

        private void clearSearch() {
            tableCount = 0;
            for (int i = 0; i < MOST_SIDE; i++) {
                rising[i] = 0;
                placesUsed[i] = 0;
                turnUsed[i] = 0;
                for (int j = 0; j < MOST_SIDE; j++) {
                    who[i][j] = NONE;
                    followed[i][j] = 0;
                }
            }
        }

        /** Band after band, turn after turn, so that tables come rising; it ends when the most are counted. */
        private void fill(int band, int turn) {
            if (band >= hunt.bands()) {
                keepTable();
                return;
            }
            if (turn >= hunt.places()) {
                fill(band + 1, 0);
                return;
            }
            int free = open[band][turn] & ~placesUsed[band] & ~turnUsed[turn];
            for (int place = 0; place < hunt.places() && tableCount < mostTables; place++) {
                if ((free >> place & 1) == 1) {
                    int ahead = turn > 0 ? who[turn - 1][place] : NONE;
                    int behind = turn + 1 < hunt.places() ? who[turn + 1][place] : NONE;
                    if (mayFollow(band, ahead) && mayFollow(behind, band)) {
                        int order = rising[band];
                        set(band, turn, place);
                        follow(band, ahead, 1);
                        follow(behind, band, 1);
                        fill(band, turn + 1);
                        follow(behind, band, -1);
                        follow(band, ahead, -1);
                        unset(band, turn, place, order);
                    }
                }
            }
        }

        private boolean mayFollow(int one, int other) {
            return one == NONE || other == NONE || followed[one][other] < hunt.follow();
        }

        private void follow(int one, int other, int times) {
            if (one != NONE && other != NONE) {
                followed[one][other] += times;
            }
        }

        private void set(int band, int turn, int place) {
            rising[band] = rising[band] * BASE + place;
            placesUsed[band] |= 1 << place;
            turnUsed[turn] |= 1 << place;
            who[turn][place] = band;
        }

        private void unset(int band, int turn, int place, int order) {
            rising[band] = order;
            placesUsed[band] &= ~(1 << place);
            turnUsed[turn] &= ~(1 << place);
            who[turn][place] = NONE;
        }

        private void keepTable() {
            if (tableOrders == null || tableCount >= MOST_TABLES) {
                return;
            }
            for (int band = 0; band < MOST_SIDE; band++) {
                tableOrders[tableCount * MOST_SIDE + band] = rising[band];
            }
            tableCount++;
        }
    }

    /**
     * The fewest helpers. As a helper may wait, each needs only to get from duty to duty in time: the duties are
     * shared out over as few chains as there are, which is all duties less the most that can be joined to a next one.
     */
    private static final class HelperCount {
        private static final int MOST_DUTIES = MOST_PLACES * MOST_PLACES;

        private final Hunt hunt;
        private final Table table;
        // By how many turns there are for it, and from where: places (bits) to which a helper can get.
        private final int[][] reach = new int[MOST_PLACES][MOST_PLACES];
        private final int[] turns = new int[MOST_DUTIES];
        private final int[] places = new int[MOST_DUTIES];
        private final int[] nextDuty = new int[MOST_DUTIES];
        private final int[] dutyAhead = new int[MOST_DUTIES];
        private final int[] lookedFrom = new int[MOST_DUTIES];
        private final int[] queue = new int[MOST_DUTIES];
        private int duties;
        private int queued;

        HelperCount(Hunt hunt, Table table) {
            this.hunt = hunt;
            this.table = table;
        }

        int fewest(int steps) {
            fillReach(steps);
            gatherDuties();
            int chains = duties;
            for (int duty = 0; duty < duties; duty++) {
                if (joinOneMore(duty)) {
                    chains--;
                }
            }
            return chains;
        }

        private void fillReach(int steps) {
            for (int from = 0; from < hunt.places(); from++) {
                reach[0][from] = 1 << from;
            }
            for (int moves = 1; moves < hunt.places(); moves++) {
                for (int from = 0; from < hunt.places(); from++) {
                    reach[moves][from] = oneMoveMore(moves, from, steps);
                }
            }
        }

        private int oneMoveMore(int moves, int from, int steps) {
            int reached = 0;
            for (int by = 0; by < hunt.places(); by++) {
                if (hunt.steps(from, by) <= steps) {
                    reached |= reach[moves - 1][by];
                }
            }
            return reached;
        }

        private void gatherDuties() {
            duties = 0;
            for (int turn = 0; turn < hunt.places(); turn++) {
                for (int place = 0; place < hunt.places(); place++) {
                    if (table.bandsAt(turn, place) != 0 && duties < MOST_DUTIES) {
                        turns[duties] = turn;
                        places[duties] = place;
                        nextDuty[duties] = NONE;
                        dutyAhead[duties] = NONE;
                        duties++;
                    }
                }
            }
        }

        private boolean canJoin(int duty, int next) {
            int moves = turns[next] - turns[duty];
            if (moves <= 0 || moves >= MOST_PLACES || !hunt.hasPlace(places[duty])) {
                return false;
            }
            return (reach[moves][places[duty]] >> places[next] & 1) == 1;
        }

        /** Gives a duty a next one, others giving way to other next ones where they can. */
        private boolean joinOneMore(int duty) {
            for (int next = 0; next < duties; next++) {
                lookedFrom[next] = NONE;
            }
            queue[0] = duty;
            queued = 1;
            for (int i = 0; i < queued && i < MOST_DUTIES; i++) {
                int free = lookFrom(queue[i]);
                if (free != NONE) {
                    giveWay(free);
                    return true;
                }
            }
            return false;
        }

        private int lookFrom(int duty) {
            for (int next = 0; next < duties; next++) {
                if (lookedFrom[next] == NONE && canJoin(duty, next)) {
                    lookedFrom[next] = duty;
                    if (dutyAhead[next] == NONE) {
                        return next;
                    }
                    if (queued < MOST_DUTIES) {
                        queue[queued] = dutyAhead[next];
                        queued++;
                    }
                }
            }
            return NONE;
        }

        private void giveWay(int free) {
            int next = free;
            for (int i = 0; i < duties && next != NONE; i++) {
                int duty = lookedFrom[next];
                if (duty == NONE) {
                    return;
                }
                int former = nextDuty[duty];
                nextDuty[duty] = next;
                dutyAhead[next] = duty;
                next = former;
            }
        }
    }
}
