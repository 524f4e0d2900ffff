/**
 * A roof told as a text: places, marks that are looked at, flues that hide, ways, and lookers each
 * with a hope; what is seen from where, and who is where year by year.
 *
 * <p>Every call is answered with a number and never throws: wrong arguments have answers of their
 * own. All rows are made with the object and used again, so that calls make nothing.
 */
public final class HassockRoof {
    public static final int NONE = -1;

    private static final int NO_SUCH = -2;
    private static final int BELOW_NOTHING = -3;
    private static final int FAULTY = -4;
    private static final int NOT_NOW = -5;
    private static final int HAS_NOTHING = -6;
    private static final int BEYOND = -7;
    private static final int OTHER_WIDTH = -8;
    private static final int NO_GAME = -1000;

    private static final int MOST_PLACES = 6;
    private static final int MOST_MARKS = 7;
    private static final int MOST_FLUES = 6;
    private static final int MOST_WAYS = 10;
    private static final int MOST_LOOKERS = 6;
    private static final int MOST_YEARS = 12;
    private static final int MOST_ACTS = 30;
    private static final int MOST_XY = 30;
    private static final int MOST_WORTH = 99;
    private static final int LAWS = 4;
    private static final int LAST_CHANCE_YEAR = 8;
    private static final int MOST_SEED = 2000000000;
    private static final int MOST_DRAWN = 20;
    private static final int IMAGES = 3;
    private static final int SLOTS = 4;
    private static final int MOST_NUMBERS = 60;
    private static final int WIDTHS = 4;
    private static final int TAPE_BYTES = 700;
    private static final int FED_BYTES = 20;
    private static final int ALL_YEARS = -1;

    private final Roof now = new Roof();
    private final Roof draft = new Roof();
    private final Reader reader = new Reader(draft);
    private final Roof[] images = new Roof[IMAGES];
    private final boolean[] kept = new boolean[IMAGES];
    private final Slot[] slots = new Slot[SLOTS];
    private final Sight sight = new Sight(now);
    private final Sight felledSight = new Sight(now);
    private final Course course = new Course(now, sight);
    private final Course trial = new Course(now, sight);
    private final Course felled = new Course(now, felledSight);
    private final Rosters lists = new Rosters(now, sight);
    private final Shifting shifting = new Shifting(now);
    private final Chances chances = new Chances(now, trial);
    private final Book book = new Book(now, trial);

    public HassockRoof() {
        for (int k = 0; k < IMAGES; k++) {
            images[k] = new Roof();
        }
        for (int s = 0; s < SLOTS; s++) {
            slots[s] = new Slot();
        }
    }

    // ---- the tape and the text ----

    public int feed(int a, int b, int c, int d, int e) {
        if (reader.length + FED_BYTES > TAPE_BYTES) {
            return NONE;
        }
        reader.append(a);
        reader.append(b);
        reader.append(c);
        reader.append(d);
        reader.append(e);
        return reader.length;
    }

    public int end(int n) {
        if (n < 0 || n > reader.length) {
            return NONE;
        }
        reader.length = n;
        return n;
    }

    public int roof() {
        boolean right = reader.readRoof();
        // What stays behind a FAULT is the ROOF with its acts: the TAPE is empty then in any case.
        reader.length = 0;
        if (!right) {
            return FAULTY;
        }
        now.copyFrom(draft);
        lookAnew();
        return now.lines;
    }

    public int fault(int what) {
        if (what == 0) {
            return reader.fault;
        }
        return what == 1 ? reader.faultPlace : NONE;
    }

    // ---- what is told ----

    public int place(int place, int what) {
        return ofPair(now.places, place, what);
    }

    public int mark(int mark, int what) {
        if (now.marks.has(mark) && what == 2) {
            return now.worthOfMark(mark);
        }
        return ofPair(now.marks, mark, what);
    }

    public int flue(int flue, int what) {
        if (now.flues.has(flue) && what == 2) {
            return now.isFallen(flue) ? 0 : 1;
        }
        return ofPair(now.flues, flue, what);
    }

    public int looker(int looker, int what) {
        return ofPair(now.lookers, looker, what);
    }

    public int ways(int place) {
        return now.places.has(place) ? now.neighbours(place) : NO_SUCH;
    }

    // ---- what is seen ----

    public int sees(int place) {
        return now.places.has(place) ? sight.marksFrom(place) : NO_SUCH;
    }

    public int from(int mark) {
        return now.marks.has(mark) ? sight.placesOf(mark) : NO_SUCH;
    }

    public int hides(int place, int mark) {
        if (!now.places.has(place) || !now.marks.has(mark)) {
            return NO_SUCH;
        }
        return sight.hider(place, mark, NONE);
    }

    public int worth(int place) {
        return now.places.has(place) ? sight.worthFrom(place) : NO_SUCH;
    }

    public int blind() {
        if (!now.isTold()) {
            return NO_SUCH;
        }
        int set = 0;
        for (int p = 0; p < now.places.size; p++) {
            if (sight.marksFrom(p) == 0) {
                set |= 1 << p;
            }
        }
        return set;
    }

    public int lost() {
        if (!now.isTold()) {
            return NO_SUCH;
        }
        return now.marks.allBits() & ~sight.marksFromSet(now.places.allBits());
    }

    public int best() {
        if (!now.isTold()) {
            return NO_SUCH;
        }
        return sight.placeOfMostWorth(now.places.allBits());
    }

    // ---- year by year ----

    public int at(int looker, int year) {
        return isLookerInYear(looker, year) ? course.spot(looker, year) : NO_SUCH;
    }

    public int who(int place, int year) {
        if (!now.places.has(place) || !now.hasYear(year)) {
            return NO_SUCH;
        }
        for (int l = 0; l < now.lookers.size; l++) {
            if (course.spot(l, year) == place) {
                return l;
            }
        }
        return NONE;
    }

    public int seen(int looker, int year) {
        if (!isLookerInYear(looker, year)) {
            return NO_SUCH;
        }
        int set = 0;
        for (int y = 0; y <= year; y++) {
            set |= course.marksSeen(looker, y);
        }
        return set;
    }

    public int joy(int looker, int year) {
        return isLookerInYear(looker, year) ? course.joyIn(looker, year) : NO_SUCH;
    }

    public int life(int looker) {
        return now.lookers.has(looker) ? course.joyOfLife(looker) : NO_SUCH;
    }

    public int sad() {
        if (!now.isTold()) {
            return NO_SUCH;
        }
        int saddest = NONE;
        int least = 0;
        for (int l = 0; l < now.lookers.size; l++) {
            int joy = course.joyOfLife(l);
            if (saddest == NONE || joy < least) {
                saddest = l;
                least = joy;
            }
        }
        return saddest;
    }

    public int drill(int looker) {
        return now.lookers.has(looker) ? course.firstGladYear(looker) : NO_SUCH;
    }

    public int glad(int year) {
        if (!now.hasYear(year)) {
            return NO_SUCH;
        }
        int set = 0;
        for (int l = 0; l < now.lookers.size; l++) {
            if (course.seesHope(l, year)) {
                set |= 1 << l;
            }
        }
        return set;
    }

    public int often(int looker) {
        if (!now.lookers.has(looker)) {
            return NO_SUCH;
        }
        int years = 0;
        for (int y = 0; y <= now.years; y++) {
            if (course.seesHope(looker, y)) {
                years++;
            }
        }
        return years;
    }

    public int round() {
        if (!now.isTold()) {
            return NO_SUCH;
        }
        for (int y = 1; y <= now.years; y++) {
            if (course.isAlike(0, y)) {
                return y;
            }
        }
        return NONE;
    }

    public int walks(int looker) {
        if (!now.lookers.has(looker)) {
            return NO_SUCH;
        }
        int set = 0;
        for (int y = 0; y <= now.years; y++) {
            set |= 1 << course.spot(looker, y);
        }
        return set;
    }

    public int feast() {
        if (!now.isTold()) {
            return NO_SUCH;
        }
        int best = 0;
        for (int y = 1; y <= now.years; y++) {
            if (course.joyOfAllIn(y) > course.joyOfAllIn(best)) {
                best = y;
            }
        }
        return best;
    }

    public int envies(int looker, int year) {
        if (!isLookerInYear(looker, year)) {
            return NO_SUCH;
        }
        int own = sight.worthFrom(course.spot(looker, year));
        int set = 0;
        for (int l = 0; l < now.lookers.size; l++) {
            if (sight.worthFrom(course.spot(l, year)) > own) {
                set |= 1 << l;
            }
        }
        return set;
    }

    public int trade(int year) {
        if (!now.hasYear(year)) {
            return NO_SUCH;
        }
        for (int a = 0; a < now.lookers.size; a++) {
            for (int b = a + 1; b < now.lookers.size; b++) {
                if (wouldTrade(a, b, year) && wouldTrade(b, a, year)) {
                    return 10 * a + b;
                }
            }
        }
        return NONE;
    }

    // ---- rows, shifts, lots, shares ----

    public int roster() {
        if (!now.isTold()) {
            return NO_SUCH;
        }
        lists.tryAll();
        return lists.most;
    }

    public int put(int looker) {
        if (!now.lookers.has(looker)) {
            return NO_SUCH;
        }
        lists.tryAll();
        return lists.placeInFirst(looker);
    }

    public int rosters() {
        if (!now.isTold()) {
            return NO_SUCH;
        }
        lists.tryAll();
        return lists.howMany;
    }

    public int fair() {
        if (!now.isTold()) {
            return NO_SUCH;
        }
        return now.lookers.size == 0 ? NONE : sight.worthOfNthBest(now.lookers.size);
    }

    public int shifts(int slot) {
        int refusal = refuseGoal(slot);
        return refusal != 0 ? refusal : shifting.fewest(slots[slot]);
    }

    public int first(int slot) {
        int refusal = refuseGoal(slot);
        return refusal != 0 ? refusal : shifting.firstLooker(slots[slot]);
    }

    public int reach() {
        if (!now.isTold()) {
            return NO_SUCH;
        }
        shifting.spreadFromTold();
        return shifting.reached;
    }

    public int far() {
        if (!now.isTold()) {
            return NO_SUCH;
        }
        shifting.spreadFromTold();
        return shifting.farthest;
    }

    public int lot(int looker, int place, int what) {
        if (!now.lookers.has(looker) || !now.places.has(place) || !isOneOfTwo(what)) {
            return NO_SUCH;
        }
        int orders = howManyRows(now.lookers.size, now.lookers.size);
        return (int) inLowestTerms(lists.ordersThatGive(looker, place), orders, what);
    }

    public int share(int place, int what) {
        if (!now.places.has(place) || !isOneOfTwo(what)) {
            return NO_SUCH;
        }
        return (int) inLowestTerms(sight.sixtiethsOfShare(place), 60, what);
    }

    public int all(int set) {
        if (!now.isTold() || (set & ~now.places.allBits()) != 0) {
            return NO_SUCH;
        }
        return now.worthOfSet(sight.marksFromSet(set));
    }

    public int watch() {
        return now.isTold() ? Integer.bitCount(sight.leastWatch()) : NO_SUCH;
    }

    public int watches() {
        return now.isTold() ? sight.leastWatch() : NO_SUCH;
    }

    // ---- the book, the laws, the flue to fell ----

    public int firsts(int slot, int looker) {
        int refusal = refuseBook(slot, looker);
        return refusal != 0 ? refusal : book.firstPlaces(slots[slot], looker);
    }

    public int ask(int slot, int looker) {
        int refusal = refuseBook(slot, looker);
        if (refusal != 0) {
            return refusal;
        }
        book.tallyYears(slots[slot], looker);
        return book.yearToAsk();
    }

    public int leaves(int slot, int looker) {
        int refusal = refuseBook(slot, looker);
        if (refusal != 0) {
            return refusal;
        }
        book.tallyYears(slots[slot], looker);
        int year = book.yearToAsk();
        return year == NONE ? book.candidates : book.worstIn(year);
    }

    public int laws(int slot, int looker) {
        int refusal = refuseBook(slot, looker);
        return refusal != 0 ? refusal : book.lawsThatAgree(slots[slot], looker);
    }

    public int by(int law) {
        return now.isTold() && isLaw(law) ? joyByLaw(law) : NO_SUCH;
    }

    public int law() {
        if (!now.isTold()) {
            return NO_SUCH;
        }
        int best = 0;
        int most = joyByLaw(0);
        for (int w = 1; w < LAWS; w++) {
            int joy = joyByLaw(w);
            if (joy > most) {
                best = w;
                most = joy;
            }
        }
        return best;
    }

    public int fell() {
        if (!now.isTold()) {
            return NO_SUCH;
        }
        int best = NONE;
        int most = course.joyOfAll();
        for (int f = 0; f < now.flues.size; f++) {
            int joy = now.isFallen(f) ? most : joyWithoutFlue(f);
            if (joy > most) {
                best = f;
                most = joy;
            }
        }
        return best;
    }

    // ---- the game, chance ----

    public int rests(int looker, int other) {
        if (!areTwoLookers(looker, other)) {
            return NO_SUCH;
        }
        int set = 0;
        for (int choice = 0; choice < 4; choice++) {
            int turns = choice & 1;
            int otherTurns = choice >> 1;
            boolean hasCause = gain(looker, other, 1 - turns, otherTurns)
                    > gain(looker, other, turns, otherTurns);
            boolean otherHasCause = gain(other, looker, 1 - otherTurns, turns)
                    > gain(other, looker, otherTurns, turns);
            if (!hasCause && !otherHasCause) {
                set |= 1 << choice;
            }
        }
        return set;
    }

    public int gets(int looker, int other, int turns, int otherTurns) {
        if (!areTwoLookers(looker, other) || !isOneOfTwo(turns) || !isOneOfTwo(otherTurns)) {
            return NO_GAME;
        }
        return gain(looker, other, turns, otherTurns);
    }

    public int chance(int looker, int place, int year, int what) {
        if (!isChanceAsked(looker, year, what) || !now.places.has(place)) {
            return NO_SUCH;
        }
        chances.weigh(looker, year);
        return (int) inLowestTerms(chances.weightOf(place), Chances.tenTo(year), what);
    }

    public long mean(int looker, int year, int what) {
        if (!isChanceAsked(looker, year, what)) {
            return NO_SUCH;
        }
        chances.weigh(looker, year);
        long sum = 0;
        for (int p = 0; p < now.places.size; p++) {
            sum += chances.weightOf(p) * sight.worthFrom(p);
        }
        return inLowestTerms(sum, Chances.tenTo(year), what);
    }

    // ---- acts ----

    public int swap(int looker, int other, int year) {
        if (!areTwoLookers(looker, other) || !now.hasYear(year) || year == now.years) {
            return NO_SUCH;
        }
        if (now.acts.isFull()) {
            return NOT_NOW;
        }
        now.acts.addExchange(looker, other, year);
        lookAnew();
        return course.spot(looker, now.years);
    }

    public int clear(int flue) {
        if (!now.flues.has(flue)) {
            return NO_SUCH;
        }
        if (now.acts.isFull()) {
            return NOT_NOW;
        }
        int stood = now.isFallen(flue) ? 0 : 1;
        now.acts.addFelling(flue);
        lookAnew();
        return stood;
    }

    public int undo() {
        if (!now.isTold()) {
            return NO_SUCH;
        }
        if (now.acts.size == 0) {
            return NOT_NOW;
        }
        now.acts.size--;
        lookAnew();
        return now.acts.size;
    }

    public int anew() {
        if (!now.isTold()) {
            return NO_SUCH;
        }
        int were = now.acts.size;
        now.acts.size = 0;
        lookAnew();
        return were;
    }

    public int drawn(int seed, int what) {
        if (!now.isTold() || !isSeed(seed) || !isOneOfTwo(what)) {
            return NO_SUCH;
        }
        int moved = chances.drawYears(seed);
        if (what == 0) {
            return moved;
        }
        trial.startAsTold();
        trial.run(now.law, moved);
        return trial.joyOfAll();
    }

    public int luck(int seed, int n, int looker) {
        if (!now.lookers.has(looker) || !isSeed(seed) || n < 1 || n > MOST_DRAWN) {
            return NO_SUCH;
        }
        int lucky = 0;
        for (int i = 0; i < n; i++) {
            trial.startAsTold();
            trial.run(now.law, chances.drawYears(seed + i));
            if (trial.firstGladYear(looker) != NONE) {
                lucky++;
            }
        }
        return lucky;
    }

    public int rate(int mark, int n) {
        if (!now.marks.has(mark) || n < 0 || n > MOST_WORTH) {
            return NO_SUCH;
        }
        if (now.acts.size > 0) {
            return NOT_NOW;
        }
        int was = now.worthOfMark(mark);
        now.setWorth(mark, n);
        lookAnew();
        return was;
    }

    // ---- counts, images ----

    public int count(int what) {
        switch (what) {
            case 0: return now.years;
            case 1: return now.law;
            case 2: return now.odds;
            case 3: return now.places.size;
            case 4: return now.marks.size;
            case 5: return now.flues.size;
            case 6: return now.ways.size;
            case 7: return now.lookers.size;
            case 8: return now.acts.size;
            case 9: return now.lines;
            case 10: return reader.length;
            case 11: return slotsHeld();
            default: return NONE;
        }
    }

    public int image(int k) {
        if (k < 0 || k >= IMAGES) {
            return NO_SUCH;
        }
        images[k].copyFrom(now);
        kept[k] = true;
        return 0;
    }

    public int back(int k) {
        if (k < 0 || k >= IMAGES) {
            return NO_SUCH;
        }
        if (!kept[k]) {
            return HAS_NOTHING;
        }
        now.copyFrom(images[k]);
        lookAnew();
        return 0;
    }

    // ---- slots ----

    public int row(int slot, int width, int n) {
        if (!isSlot(slot) || width < 0 || width >= WIDTHS || n > MOST_NUMBERS) {
            return NO_SUCH;
        }
        if (n < 0) {
            return BELOW_NOTHING;
        }
        slots[slot].makeAnew(width, n);
        return 0;
    }

    public int write(int slot, int i, long v) {
        if (!isSlot(slot)) {
            return NO_SUCH;
        }
        if (!slots[slot].isHeld) {
            return HAS_NOTHING;
        }
        if (!slots[slot].hasNumbers(i, 1)) {
            return BEYOND;
        }
        slots[slot].setNumber(i, v);
        return 0;
    }

    public int paste(int slot, int i, int to, int k, int n) {
        if (!isSlot(slot) || !isSlot(to)) {
            return NO_SUCH;
        }
        Slot source = slots[slot];
        Slot goal = slots[to];
        if (!source.isHeld || !goal.isHeld) {
            return HAS_NOTHING;
        }
        if (source.width != goal.width) {
            return OTHER_WIDTH;
        }
        if (!source.hasNumbers(i, n) || !goal.hasNumbers(k, n)) {
            return BEYOND;
        }
        System.arraycopy(source.numbers, i, goal.numbers, k, n);
        return 0;
    }

    // ---- helpers of the face ----

    /** All that follows from the ROOF and its acts is worked out when one of them changes. */
    private void lookAnew() {
        sight.look(NONE);
        course.startAsTold();
        course.run(now.law, ALL_YEARS);
    }

    private static int ofPair(Pairs pairs, int i, int what) {
        if (!pairs.has(i) || !isOneOfTwo(what)) {
            return NO_SUCH;
        }
        return what == 0 ? pairs.one(i) : pairs.other(i);
    }

    private static boolean isOneOfTwo(int what) {
        return what == 0 || what == 1;
    }

    private static boolean isSlot(int slot) {
        return slot >= 0 && slot < SLOTS;
    }

    private static boolean isLaw(int law) {
        return law >= 0 && law < LAWS;
    }

    private static boolean isSeed(int seed) {
        return seed >= 0 && seed <= MOST_SEED;
    }

    private boolean isLookerInYear(int looker, int year) {
        return now.lookers.has(looker) && now.hasYear(year);
    }

    private boolean areTwoLookers(int looker, int other) {
        return now.lookers.has(looker) && now.lookers.has(other) && looker != other;
    }

    private boolean isChanceAsked(int looker, int year, int what) {
        return isLookerInYear(looker, year) && year >= 1 && year <= LAST_CHANCE_YEAR
                && isOneOfTwo(what);
    }

    private boolean wouldTrade(int looker, int other, int year) {
        int hope = now.lookers.other(looker);
        return !course.seesHope(looker, year) && sight.isSeen(course.spot(other, year), hope);
    }

    private int refuseGoal(int slot) {
        if (!isSlot(slot) || !now.isTold()) {
            return NO_SUCH;
        }
        if (!slots[slot].isHeld) {
            return HAS_NOTHING;
        }
        return shifting.isGoal(slots[slot]) ? 0 : NO_SUCH;
    }

    private int refuseBook(int slot, int looker) {
        if (!isSlot(slot) || !now.lookers.has(looker)) {
            return NO_SUCH;
        }
        if (!slots[slot].isHeld) {
            return HAS_NOTHING;
        }
        return book.isRight(slots[slot]) ? 0 : NO_SUCH;
    }

    private int joyByLaw(int law) {
        trial.startAsTold();
        trial.run(law, ALL_YEARS);
        return trial.joyOfAll();
    }

    private int joyWithoutFlue(int flue) {
        felledSight.look(flue);
        felled.startAsTold();
        felled.run(now.law, ALL_YEARS);
        return felled.joyOfAll();
    }

    private int gain(int looker, int other, int turns, int otherTurns) {
        int own = marksInGame(looker, turns);
        int others = marksInGame(other, otherTurns);
        return now.worthOfSet(own & ~others) + now.worthOfSet(own & others) / 2;
    }

    private int marksInGame(int looker, int turns) {
        int told = now.lookers.one(looker);
        return sight.marksFrom(turns == 1 ? now.nextIn(now.places.allBits(), told) : told);
    }

    private int slotsHeld() {
        int held = 0;
        for (int s = 0; s < SLOTS; s++) {
            if (slots[s].isHeld) {
                held++;
            }
        }
        return held;
    }

    /** How many rows there are of so many unlike numbers below a limit. */
    private static int howManyRows(int limit, int length) {
        int product = 1;
        for (int i = 0; i < length; i++) {
            product *= limit - i;
        }
        return product;
    }

    /** The row of this number, counted from the least row on. */
    private static void fillRow(int[] row, int limit, int length, int number) {
        int rest = number;
        for (int i = Math.min(length, row.length) - 1; i >= 0; i--) {
            int free = limit - i;
            row[i] = free > 0 ? rest % free : 0;
            rest = free > 0 ? rest / free : 0;
        }
        int taken = 0;
        for (int i = 0; i < length && i < row.length; i++) {
            row[i] = nthFree(taken, limit, row[i]);
            taken |= 1 << row[i];
        }
    }

    private static int nthFree(int taken, int limit, int n) {
        int ahead = 0;
        for (int v = 0; v < limit; v++) {
            boolean isFree = (taken >> v & 1) == 0;
            if (isFree && ahead == n) {
                return v;
            }
            if (isFree) {
                ahead++;
            }
        }
        return 0;
    }

    /** The number of a row: the way back from fillRow. */
    private static int numberOfRow(int[] row, int limit, int length) {
        int number = 0;
        int taken = 0;
        for (int i = 0; i < length && i < row.length; i++) {
            int below = (1 << row[i]) - 1;
            number = number * (limit - i) + Integer.bitCount(below & ~taken);
            taken |= 1 << row[i];
        }
        return number;
    }

    private static long inLowestTerms(long above, long below, int what) {
        long a = above;
        long b = below;
        // Euclid's remainders halve every second step: 200 steps are more than a long can need.
        for (int i = 0; i < 200 && b != 0; i++) {
            long rest = a % b;
            a = b;
            b = rest;
        }
        if (a == 0) {
            return what == 0 ? 0 : 1;
        }
        return what == 0 ? above / a : below / a;
    }

    /** Pairs of numbers in the order in which they came: points, ways, lookers. */
    private static final class Pairs {
        private final int[] ones;
        private final int[] others;
        int size = 0;

        Pairs(int most) {
            int room = Math.max(most, 0);
            ones = new int[room];
            others = new int[room];
        }

        boolean has(int i) {
            return i >= 0 && i < size;
        }

        boolean isFull() {
            return size >= ones.length;
        }

        void add(int one, int other) {
            if (!isFull()) {
                ones[size] = one;
                others[size] = other;
                size++;
            }
        }

        int one(int i) {
            return i >= 0 && i < size ? ones[i] : 0;
        }

        int other(int i) {
            return i >= 0 && i < size ? others[i] : 0;
        }

        boolean hasPair(int one, int other) {
            for (int i = 0; i < size; i++) {
                if (ones[i] == one && others[i] == other) {
                    return true;
                }
            }
            return false;
        }

        boolean hasOne(int one) {
            for (int i = 0; i < size; i++) {
                if (ones[i] == one) {
                    return true;
                }
            }
            return false;
        }

        int allBits() {
            return (1 << size) - 1;
        }

        void copyFrom(Pairs source) {
            size = 0;
            for (int i = 0; i < source.size; i++) {
                add(source.ones[i], source.others[i]);
            }
        }
    }

    /** Exchanges of LOOKERS and flues taken down, in their order. */
    private static final class Acts {
        private final int[] ones = new int[MOST_ACTS];
        private final int[] others = new int[MOST_ACTS];
        // Of a flue taken down: NONE, for it is down in all YEARS.
        private final int[] years = new int[MOST_ACTS];
        int size = 0;

        boolean isFull() {
            return size >= MOST_ACTS;
        }

        void addExchange(int looker, int other, int year) {
            if (!isFull()) {
                ones[size] = looker;
                others[size] = other;
                years[size] = year;
                size++;
            }
        }

        void addFelling(int flue) {
            addExchange(flue, NONE, NONE);
        }

        boolean isFallen(int flue) {
            for (int i = 0; i < size; i++) {
                if (years[i] == NONE && ones[i] == flue) {
                    return true;
                }
            }
            return false;
        }

        void exchangeIn(int year, int[] spots) {
            for (int i = 0; i < size; i++) {
                if (years[i] == year) {
                    exchange(spots, ones[i], others[i]);
                }
            }
        }

        private static void exchange(int[] spots, int a, int b) {
            if (a >= 0 && a < spots.length && b >= 0 && b < spots.length) {
                int spot = spots[a];
                spots[a] = spots[b];
                spots[b] = spot;
            }
        }

        void copyFrom(Acts source) {
            size = 0;
            for (int i = 0; i < source.size; i++) {
                addExchange(source.ones[i], source.others[i], source.years[i]);
            }
        }
    }

    /** What the text tells, and the acts since. Without LINES there is no ROOF. */
    private static final class Roof {
        int years;
        int law;
        int odds;
        int lines;
        final Pairs places = new Pairs(MOST_PLACES);
        final Pairs marks = new Pairs(MOST_MARKS);
        private final int[] worths = new int[MOST_MARKS];
        final Pairs flues = new Pairs(MOST_FLUES);
        final Pairs ways = new Pairs(MOST_WAYS);
        // Of each looker the PLACE told and the MARK hoped for.
        final Pairs lookers = new Pairs(MOST_LOOKERS);
        final Acts acts = new Acts();

        boolean isTold() {
            return lines > 0;
        }

        boolean hasYear(int year) {
            return isTold() && year >= 0 && year <= years;
        }

        boolean isTaken(int x, int y) {
            return places.hasPair(x, y) || marks.hasPair(x, y) || flues.hasPair(x, y);
        }

        boolean isFallen(int flue) {
            return acts.isFallen(flue);
        }

        int worthOfMark(int mark) {
            return marks.has(mark) ? worths[mark] : 0;
        }

        void setWorth(int mark, int worth) {
            if (marks.has(mark)) {
                worths[mark] = worth;
            }
        }

        int worthOfSet(int set) {
            int sum = 0;
            for (int m = 0; m < marks.size; m++) {
                if ((set >> m & 1) != 0) {
                    sum += worths[m];
                }
            }
            return sum;
        }

        int neighbours(int place) {
            int set = 0;
            for (int w = 0; w < ways.size; w++) {
                if (ways.one(w) == place) {
                    set |= 1 << ways.other(w);
                }
                if (ways.other(w) == place) {
                    set |= 1 << ways.one(w);
                }
            }
            return set;
        }

        /** The next PLACE of a set behind one, from the last to the first. */
        int nextIn(int set, int place) {
            int next = place;
            for (int i = 0; i < places.size; i++) {
                next = next + 1 < places.size ? next + 1 : 0;
                if ((set >> next & 1) != 0) {
                    return next;
                }
            }
            return place;
        }

        void makeEmpty() {
            years = 0;
            law = 0;
            odds = 0;
            lines = 0;
            places.size = 0;
            marks.size = 0;
            flues.size = 0;
            ways.size = 0;
            lookers.size = 0;
            acts.size = 0;
        }

        void copyFrom(Roof source) {
            years = source.years;
            law = source.law;
            odds = source.odds;
            lines = source.lines;
            places.copyFrom(source.places);
            marks.copyFrom(source.marks);
            System.arraycopy(source.worths, 0, worths, 0, MOST_MARKS);
            flues.copyFrom(source.flues);
            ways.copyFrom(source.ways);
            lookers.copyFrom(source.lookers);
            acts.copyFrom(source.acts);
        }
    }

    /** The TAPE, read from left to right into a draft, up to the first FAULT. */
    private static final class Reader {
        private static final int END = 0;
        private static final int WORD = 1;
        private static final int NUMBER = 2;
        private static final int SIGN = 3;
        private static final int NO_TOKEN = 4;
        private static final int BLANK = 5;

        private static final int MISPLACED = 1;
        private static final int OUT_OF_BOUNDS = 2;
        private static final int TOO_MANY = 3;

        // Far above every bound: a longer number stays out of bounds without wrapping around.
        private static final int HUGE = 1000000;

        private final Roof draft;
        private final byte[] tape = new byte[TAPE_BYTES];
        int length = 0;
        private int kind;
        private int start;
        private int stop;
        private int value;
        private int valueStart;
        int fault = 0;
        int faultPlace = NONE;

        Reader(Roof draft) {
            this.draft = draft;
        }

        void append(int number) {
            for (int shift = 24; shift >= 0 && length < TAPE_BYTES; shift -= 8) {
                tape[length] = (byte) (number >> shift);
                length++;
            }
        }

        boolean readRoof() {
            draft.makeEmpty();
            fault = 0;
            faultPlace = NONE;
            stop = 0;
            nextToken();
            boolean right = true;
            // A LINE has two bytes at least, so there are never more LINES than bytes.
            for (int i = 0; i < TAPE_BYTES && right && kind != END; i++) {
                right = readLine() && takeSign();
                draft.lines++;
            }
            return right;
        }

        private boolean readLine() {
            if (draft.lines == 0) {
                return readRoofLine();
            }
            if (isWord("place")) {
                return readPoint(draft.places);
            }
            if (isWord("mark")) {
                return readPoint(draft.marks) && readWorth();
            }
            if (isWord("flue")) {
                return readPoint(draft.flues);
            }
            if (isWord("way")) {
                return readWay();
            }
            return isWord("looker") ? readLooker() : refuse(MISPLACED, start);
        }

        private boolean readRoofLine() {
            if (!takeWord("roof") || !takeWord("years") || !takeNumber(1, MOST_YEARS)) {
                return false;
            }
            draft.years = value;
            if (!takeWord("law") || !takeNumber(0, LAWS - 1)) {
                return false;
            }
            draft.law = value;
            if (!takeWord("odds") || !takeNumber(0, 10)) {
                return false;
            }
            draft.odds = value;
            return true;
        }

        private boolean readPoint(Pairs points) {
            if (!takeHead(points) || !takeNumber(0, MOST_XY)) {
                return false;
            }
            int x = value;
            if (!takeNumber(0, MOST_XY)) {
                return false;
            }
            if (draft.isTaken(x, value)) {
                return refuse(OUT_OF_BOUNDS, valueStart);
            }
            points.add(x, value);
            return true;
        }

        private boolean readWorth() {
            if (!takeWord("worth") || !takeNumber(0, MOST_WORTH)) {
                return false;
            }
            draft.setWorth(draft.marks.size - 1, value);
            return true;
        }

        private boolean readWay() {
            if (!takeHead(draft.ways) || !takeNumber(0, draft.places.size - 1)) {
                return false;
            }
            int one = value;
            if (!takeNumber(0, draft.places.size - 1)) {
                return false;
            }
            if (value == one) {
                return refuse(OUT_OF_BOUNDS, valueStart);
            }
            draft.ways.add(one, value);
            return true;
        }

        private boolean readLooker() {
            if (!takeHead(draft.lookers) || !takeWord("at")
                    || !takeNumber(0, draft.places.size - 1)) {
                return false;
            }
            int place = value;
            if (draft.lookers.hasOne(place)) {
                return refuse(OUT_OF_BOUNDS, valueStart);
            }
            if (!takeWord("hopes") || !takeNumber(0, draft.marks.size - 1)) {
                return false;
            }
            draft.lookers.add(place, value);
            return true;
        }

        /** A LINE's first word, which the caller has looked at already. */
        private boolean takeHead(Pairs pairs) {
            if (pairs.isFull()) {
                return refuse(TOO_MANY, start);
            }
            nextToken();
            return true;
        }

        private boolean takeWord(String word) {
            if (!isWord(word)) {
                return refuse(MISPLACED, start);
            }
            nextToken();
            return true;
        }

        private boolean takeSign() {
            if (kind != SIGN) {
                return refuse(MISPLACED, start);
            }
            nextToken();
            return true;
        }

        private boolean takeNumber(int least, int most) {
            if (kind != NUMBER) {
                return refuse(MISPLACED, start);
            }
            value = numberOfToken();
            valueStart = start;
            if (value < least || value > most) {
                return refuse(OUT_OF_BOUNDS, start);
            }
            nextToken();
            return true;
        }

        private boolean refuse(int number, int place) {
            fault = number;
            faultPlace = place;
            return false;
        }

        private boolean isWord(String word) {
            if (kind != WORD || stop - start != word.length() || stop > TAPE_BYTES) {
                return false;
            }
            for (int i = start; i < stop; i++) {
                if (tape[i] != word.charAt(i - start)) {
                    return false;
                }
            }
            return true;
        }

        private int numberOfToken() {
            int number = 0;
            for (int i = start; i < stop && i < TAPE_BYTES; i++) {
                number = Math.min(number * 10 + tape[i] - '0', HUGE);
            }
            return number;
        }

        private void nextToken() {
            start = stop;
            for (int i = stop; i < length && kindAt(i) == BLANK; i++) {
                start = i + 1;
            }
            kind = kindAt(start);
            stop = Math.min(start + 1, length);
            if (kind == WORD || kind == NUMBER) {
                for (int i = stop; i < length && kindAt(i) == kind; i++) {
                    stop = i + 1;
                }
            }
        }

        private int kindAt(int i) {
            if (i < 0 || i >= length || i >= TAPE_BYTES) {
                return END;
            }
            int b = tape[i];
            if (b == ' ' || b == '\n') {
                return BLANK;
            }
            if (b >= 'a' && b <= 'z') {
                return WORD;
            }
            if (b >= '0' && b <= '9') {
                return NUMBER;
            }
            return b == ';' ? SIGN : NO_TOKEN;
        }
    }

    /** Which MARKS are seen from which PLACES, and what they are worth together. */
    private static final class Sight {
        private final Roof roof;
        private final int[] marks = new int[MOST_PLACES];
        private final int[] worths = new int[MOST_PLACES];

        Sight(Roof roof) {
            this.roof = roof;
        }

        /** Looks from all PLACES, one FLUE more thought away (NONE: none is). */
        void look(int without) {
            for (int p = 0; p < MOST_PLACES; p++) {
                int set = 0;
                for (int m = 0; m < roof.marks.size && roof.places.has(p); m++) {
                    if (hider(p, m, without) == NONE) {
                        set |= 1 << m;
                    }
                }
                marks[p] = set;
                worths[p] = roof.worthOfSet(set);
            }
        }

        int hider(int place, int mark, int without) {
            for (int f = 0; f < roof.flues.size; f++) {
                if (f != without && !roof.isFallen(f) && isBetween(f, place, mark)) {
                    return f;
                }
            }
            return NONE;
        }

        private boolean isBetween(int flue, int place, int mark) {
            int toPlaceX = roof.places.one(place) - roof.flues.one(flue);
            int toPlaceY = roof.places.other(place) - roof.flues.other(flue);
            int toMarkX = roof.marks.one(mark) - roof.flues.one(flue);
            int toMarkY = roof.marks.other(mark) - roof.flues.other(flue);
            boolean onLine = toPlaceX * toMarkY == toPlaceY * toMarkX;
            return onLine && toPlaceX * toMarkX + toPlaceY * toMarkY < 0;
        }

        int marksFrom(int place) {
            return place >= 0 && place < MOST_PLACES ? marks[place] : 0;
        }

        int worthFrom(int place) {
            return place >= 0 && place < MOST_PLACES ? worths[place] : 0;
        }

        boolean isSeen(int place, int mark) {
            return place >= 0 && place < MOST_PLACES && (marks[place] >> mark & 1) != 0;
        }

        int placesOf(int mark) {
            int set = 0;
            for (int p = 0; p < roof.places.size; p++) {
                if (isSeen(p, mark)) {
                    set |= 1 << p;
                }
            }
            return set;
        }

        int marksFromSet(int set) {
            int union = 0;
            for (int p = 0; p < roof.places.size; p++) {
                if ((set >> p & 1) != 0) {
                    union |= marks[p];
                }
            }
            return union;
        }

        int placeOfMostWorth(int set) {
            int best = NONE;
            for (int p = 0; p < roof.places.size; p++) {
                if ((set >> p & 1) != 0 && (best == NONE || worths[p] > worths[best])) {
                    best = p;
                }
            }
            return best;
        }

        /** The first PLACE of a set from which a MARK is seen; NONE without. */
        int firstThatSees(int set, int mark) {
            for (int p = 0; p < roof.places.size; p++) {
                if ((set >> p & 1) != 0 && isSeen(p, mark)) {
                    return p;
                }
            }
            return NONE;
        }

        /** The greatest WORTH that n PLACES have at least: the n best ones are the fairest row. */
        int worthOfNthBest(int n) {
            int best = 0;
            for (int p = 0; p < roof.places.size; p++) {
                int asGood = 0;
                for (int q = 0; q < roof.places.size; q++) {
                    if (worths[q] >= worths[p]) {
                        asGood++;
                    }
                }
                if (asGood >= n) {
                    best = Math.max(best, worths[p]);
                }
            }
            return best;
        }

        /**
         * A MARK's worth goes to the first in the order of the PLACES that see it, and each of
         * these is as likely the first: all have equal parts. 60 is divided by each of 1 .. 6.
         */
        int sixtiethsOfShare(int place) {
            int sum = 0;
            for (int m = 0; m < roof.marks.size; m++) {
                int sharers = Integer.bitCount(placesOf(m));
                if (isSeen(place, m) && sharers > 0) {
                    sum += roof.worthOfMark(m) * (60 / sharers);
                }
            }
            return sum;
        }

        /** Of the sets of fewest PLACES that see all that is seen at all, the least as bits. */
        int leastWatch() {
            int everyPlace = roof.places.allBits();
            int everything = marksFromSet(everyPlace);
            int best = everyPlace;
            for (int set = 0; set <= everyPlace; set++) {
                if (marksFromSet(set) == everything
                        && Integer.bitCount(set) < Integer.bitCount(best)) {
                    best = set;
                }
            }
            return best;
        }
    }

    /** Who is where, YEAR by YEAR, behind the exchanges of each. */
    private static final class Course {
        private final Roof roof;
        private final Sight sight;
        private final int[][] spots = new int[MOST_YEARS + 1][MOST_LOOKERS];

        Course(Roof roof, Sight sight) {
            this.roof = roof;
            this.sight = sight;
        }

        void startAsTold() {
            for (int l = 0; l < roof.lookers.size; l++) {
                spots[0][l] = roof.lookers.one(l);
            }
        }

        /** One LOOKER was at another PLACE at first, and who was there at his. */
        void startWith(int looker, int place) {
            int told = roof.lookers.one(looker);
            for (int l = 0; l < roof.lookers.size; l++) {
                int spot = roof.lookers.one(l);
                spots[0][l] = l == looker ? place : spot == place ? told : spot;
            }
        }

        /** From the start to the last YEAR, moved by a LAW in YEARS that are bits of moved. */
        void run(int law, int moved) {
            for (int y = 0; y < roof.years && y < MOST_YEARS; y++) {
                exchangeIn(y);
                if ((moved >> y & 1) != 0) {
                    moveOn(y, law);
                } else {
                    stayOn(y);
                }
            }
        }

        void exchangeIn(int year) {
            if (isRowOfSpots(year)) {
                roof.acts.exchangeIn(year, spots[year]);
            }
        }

        void stayOn(int year) {
            if (isRowOfSpots(year) && isRowOfSpots(year + 1)) {
                System.arraycopy(spots[year], 0, spots[year + 1], 0, MOST_LOOKERS);
            }
        }

        void moveOn(int year, int law) {
            stayOn(year);
            if (!isRowOfSpots(year + 1)) {
                return;
            }
            int[] row = spots[year + 1];
            switch (law) {
                case 0:
                    goOn(row, roof.lookers.allBits(), roof.places.allBits());
                    break;
                case 1:
                    goBack(row);
                    break;
                case 2:
                    changeMostAndLeast(row);
                    break;
                default:
                    goOn(row, unhappy(row), placesOf(row, unhappy(row)));
                    break;
            }
        }

        private static boolean isRowOfSpots(int year) {
            return year >= 0 && year <= MOST_YEARS;
        }

        private void goOn(int[] row, int goers, int places) {
            for (int l = 0; l < roof.lookers.size; l++) {
                if ((goers >> l & 1) != 0) {
                    row[l] = roof.nextIn(places, row[l]);
                }
            }
        }

        private void goBack(int[] row) {
            for (int l = 0; l < roof.lookers.size; l++) {
                row[l] = row[l] > 0 ? row[l] - 1 : roof.places.size - 1;
            }
        }

        private void changeMostAndLeast(int[] row) {
            int most = NONE;
            for (int l = 0; l < roof.lookers.size; l++) {
                if (most == NONE || sight.worthFrom(row[l]) > sight.worthFrom(row[most])) {
                    most = l;
                }
            }
            int least = NONE;
            for (int l = 0; l < roof.lookers.size; l++) {
                if (l != most && (least == NONE
                        || sight.worthFrom(row[l]) < sight.worthFrom(row[least]))) {
                    least = l;
                }
            }
            Acts.exchange(row, most, least);
        }

        private int unhappy(int[] row) {
            int set = 0;
            for (int l = 0; l < roof.lookers.size; l++) {
                if (!sight.isSeen(row[l], roof.lookers.other(l))) {
                    set |= 1 << l;
                }
            }
            return set;
        }

        private int placesOf(int[] row, int lookers) {
            int set = 0;
            for (int l = 0; l < roof.lookers.size; l++) {
                if ((lookers >> l & 1) != 0) {
                    set |= 1 << row[l];
                }
            }
            return set;
        }

        int spot(int looker, int year) {
            boolean isIn = year >= 0 && year <= MOST_YEARS && looker >= 0 && looker < MOST_LOOKERS;
            return isIn ? spots[year][looker] : 0;
        }

        boolean isAlike(int year, int other) {
            for (int l = 0; l < roof.lookers.size; l++) {
                if (spot(l, year) != spot(l, other)) {
                    return false;
                }
            }
            return true;
        }

        int marksSeen(int looker, int year) {
            return sight.marksFrom(spot(looker, year));
        }

        boolean seesHope(int looker, int year) {
            return sight.isSeen(spot(looker, year), roof.lookers.other(looker));
        }

        int firstGladYear(int looker) {
            for (int y = 0; y <= roof.years; y++) {
                if (seesHope(looker, y)) {
                    return y;
                }
            }
            return NONE;
        }

        int joyIn(int looker, int year) {
            int old = year > 0 ? marksSeen(looker, year - 1) : 0;
            return roof.worthOfSet(marksSeen(looker, year) & ~old);
        }

        int joyOfLife(int looker) {
            int sum = 0;
            for (int y = 0; y <= roof.years; y++) {
                sum += joyIn(looker, y);
            }
            return sum;
        }

        int joyOfAllIn(int year) {
            int sum = 0;
            for (int l = 0; l < roof.lookers.size; l++) {
                sum += joyIn(l, year);
            }
            return sum;
        }

        int joyOfAll() {
            int sum = 0;
            for (int l = 0; l < roof.lookers.size; l++) {
                sum += joyOfLife(l);
            }
            return sum;
        }
    }

    /** Tries all ROWS of PLACES, and LOTS by all orders of LOOKERS. */
    private static final class Rosters {
        private final Roof roof;
        private final Sight sight;
        private final int[] row = new int[MOST_LOOKERS];
        private final int[] firstRow = new int[MOST_LOOKERS];
        int most;
        int howMany;

        Rosters(Roof roof, Sight sight) {
            this.roof = roof;
            this.sight = sight;
        }

        void tryAll() {
            int lookers = roof.lookers.size;
            int rows = howManyRows(roof.places.size, lookers);
            most = NONE;
            howMany = 0;
            for (int n = 0; n < rows; n++) {
                fillRow(row, roof.places.size, lookers, n);
                int gladOnes = gladByRow();
                if (gladOnes > most) {
                    most = gladOnes;
                    howMany = 0;
                    System.arraycopy(row, 0, firstRow, 0, MOST_LOOKERS);
                }
                if (gladOnes == most) {
                    howMany++;
                }
            }
        }

        private int gladByRow() {
            int gladOnes = 0;
            for (int l = 0; l < roof.lookers.size; l++) {
                if (sight.isSeen(row[l], roof.lookers.other(l))) {
                    gladOnes++;
                }
            }
            return gladOnes;
        }

        int placeInFirst(int looker) {
            return roof.lookers.has(looker) ? firstRow[looker] : 0;
        }

        int ordersThatGive(int looker, int place) {
            int lookers = roof.lookers.size;
            int orders = howManyRows(lookers, lookers);
            int hits = 0;
            for (int n = 0; n < orders; n++) {
                fillRow(row, lookers, lookers, n);
                if (takenByOrder(looker) == place) {
                    hits++;
                }
            }
            return hits;
        }

        /** The PLACE that one LOOKER takes, when they come in the order that row has. */
        private int takenByOrder(int looker) {
            int free = roof.places.allBits();
            for (int i = 0; i < roof.lookers.size; i++) {
                int wanted = sight.firstThatSees(free, roof.lookers.other(row[i]));
                int taken = wanted != NONE ? wanted : sight.placeOfMostWorth(free);
                if (row[i] == looker || taken == NONE) {
                    return taken;
                }
                free &= ~(1 << taken);
            }
            return NONE;
        }
    }

    /** Goes from ROW to ROW by SHIFTS, nearest ones first. */
    private static final class Shifting {
        private static final int MOST_ROWS = 720;

        private final Roof roof;
        private final int[] distances = new int[MOST_ROWS];
        private final int[] queue = new int[MOST_ROWS];
        private final int[] row = new int[MOST_LOOKERS];
        // WAYS are looked through once a spread: hundreds of rows ask for the same PLACES.
        private final int[] near = new int[MOST_PLACES];
        int reached;
        int farthest;

        Shifting(Roof roof) {
            this.roof = roof;
        }

        /** Whether a SLOT's numbers are PLACES, one for each LOOKER, no two alike. */
        boolean isGoal(Slot slot) {
            if (slot.size != roof.lookers.size) {
                return false;
            }
            int taken = 0;
            for (int i = 0; i < slot.size; i++) {
                long place = slot.number(i);
                if (place < 0 || place >= roof.places.size || (taken >> (int) place & 1) != 0) {
                    return false;
                }
                taken |= 1 << (int) place;
            }
            return true;
        }

        int fewest(Slot goal) {
            for (int l = 0; l < roof.lookers.size; l++) {
                row[l] = (int) goal.number(l);
            }
            spread();
            fillAsTold();
            return distanceOfRow();
        }

        /** WAYS go both ways, so what is as far from the goal is as far to it. */
        int firstLooker(Slot goal) {
            int distance = fewest(goal);
            if (distance <= 0) {
                return NONE;
            }
            for (int l = 0; l < roof.lookers.size; l++) {
                int told = row[l];
                int goals = roof.neighbours(told) & ~taken();
                for (int p = 0; p < roof.places.size; p++) {
                    row[l] = p;
                    if ((goals >> p & 1) != 0 && distanceOfRow() == distance - 1) {
                        return l;
                    }
                }
                row[l] = told;
            }
            return NONE;
        }

        void spreadFromTold() {
            fillAsTold();
            spread();
        }

        private void fillAsTold() {
            for (int l = 0; l < roof.lookers.size; l++) {
                row[l] = roof.lookers.one(l);
            }
        }

        private void spread() {
            for (int i = 0; i < MOST_ROWS; i++) {
                distances[i] = NONE;
            }
            for (int p = 0; p < MOST_PLACES; p++) {
                near[p] = roof.neighbours(p);
            }
            reached = 0;
            farthest = 0;
            visit(0);
            for (int i = 0; i < reached && i < MOST_ROWS; i++) {
                fillRow(row, roof.places.size, roof.lookers.size, queue[i]);
                visitNeighbours();
            }
        }

        private void visitNeighbours() {
            int distance = distanceOfRow() + 1;
            int taken = taken();
            for (int l = 0; l < roof.lookers.size; l++) {
                int spot = row[l];
                int goals = nearTo(spot) & ~taken;
                for (int p = 0; p < roof.places.size; p++) {
                    if ((goals >> p & 1) != 0) {
                        row[l] = p;
                        visit(distance);
                    }
                }
                row[l] = spot;
            }
        }

        private int nearTo(int place) {
            return place >= 0 && place < MOST_PLACES ? near[place] : 0;
        }

        private void visit(int distance) {
            int number = numberOfRow(row, roof.places.size, roof.lookers.size);
            if (number < 0 || number >= MOST_ROWS || distances[number] != NONE
                    || reached >= MOST_ROWS) {
                return;
            }
            distances[number] = distance;
            farthest = Math.max(farthest, distance);
            queue[reached] = number;
            reached++;
        }

        private int taken() {
            int set = 0;
            for (int l = 0; l < roof.lookers.size; l++) {
                set |= 1 << row[l];
            }
            return set;
        }

        private int distanceOfRow() {
            int number = numberOfRow(row, roof.places.size, roof.lookers.size);
            return number >= 0 && number < MOST_ROWS ? distances[number] : NONE;
        }
    }

    /** YEARS in which LOOKERS are moved by chance, and YEARS drawn. */
    private static final class Chances {
        private final Roof roof;
        private final Course course;
        private final long[] weights = new long[MOST_PLACES];

        Chances(Roof roof, Course course) {
            this.roof = roof;
            this.course = course;
        }

        static long tenTo(int year) {
            long power = 1;
            for (int i = 0; i < year && i < LAST_CHANCE_YEAR; i++) {
                power *= 10;
            }
            return power;
        }

        /** In how many of 10 to the YEAR cases a LOOKER is at each PLACE then. */
        void weigh(int looker, int year) {
            for (int p = 0; p < MOST_PLACES; p++) {
                weights[p] = 0;
            }
            course.startAsTold();
            course.exchangeIn(0);
            branch(looker, 0, Math.min(year, LAST_CHANCE_YEAR), 1);
        }

        /** Goes two ways from each YEAR; the rows of YEARS ahead stay as this branch has them. */
        private void branch(int looker, int year, int last, long weight) {
            if (weight == 0) {
                return;
            }
            if (year >= last) {
                addWeight(course.spot(looker, year), weight);
                return;
            }
            course.stayOn(year);
            course.exchangeIn(year + 1);
            branch(looker, year + 1, last, weight * (10 - roof.odds));
            course.moveOn(year, roof.law);
            course.exchangeIn(year + 1);
            branch(looker, year + 1, last, weight * roof.odds);
        }

        private void addWeight(int place, long weight) {
            if (place >= 0 && place < MOST_PLACES) {
                weights[place] += weight;
            }
        }

        long weightOf(int place) {
            return place >= 0 && place < MOST_PLACES ? weights[place] : 0;
        }

        /** The YEARS in which draws from a seed move them, as bits. */
        int drawYears(int seed) {
            long x = seed;
            int moved = 0;
            for (int y = 0; y < roof.years; y++) {
                x = (1103515245L * x + 12345L) & 2147483647L;
                if (x / 65536 % 10 < roof.odds) {
                    moved |= 1 << y;
                }
            }
            return moved;
        }
    }

    /** What one LOOKER wrote down: in which YEAR he saw which MARK, or not. */
    private static final class Book {
        private final Roof roof;
        private final Course course;
        private final int[][] tally = new int[MOST_YEARS + 1][MOST_PLACES];
        int candidates;

        Book(Roof roof, Course course) {
            this.roof = roof;
            this.course = course;
        }

        boolean isRight(Slot slot) {
            if (slot.size % 3 != 0) {
                return false;
            }
            for (int i = 0; i < slot.size; i += 3) {
                long year = slot.number(i);
                long mark = slot.number(i + 1);
                long saw = slot.number(i + 2);
                boolean isRight = year >= 0 && year <= roof.years
                        && mark >= 0 && mark < roof.marks.size && saw >= 0 && saw <= 1;
                if (!isRight) {
                    return false;
                }
            }
            return true;
        }

        int firstPlaces(Slot slot, int looker) {
            int set = 0;
            for (int p = 0; p < roof.places.size; p++) {
                if (canHaveBeen(slot, looker, p)) {
                    set |= 1 << p;
                }
            }
            return set;
        }

        int lawsThatAgree(Slot slot, int looker) {
            int set = 0;
            for (int w = 0; w < LAWS; w++) {
                course.startAsTold();
                course.run(w, ALL_YEARS);
                if (agrees(slot, looker)) {
                    set |= 1 << w;
                }
            }
            return set;
        }

        /** For each YEAR and PLACE, by how many of his first PLACES he is there then. */
        void tallyYears(Slot slot, int looker) {
            candidates = 0;
            for (int y = 0; y <= MOST_YEARS; y++) {
                for (int p = 0; p < MOST_PLACES; p++) {
                    tally[y][p] = 0;
                }
            }
            for (int p = 0; p < roof.places.size; p++) {
                if (canHaveBeen(slot, looker, p)) {
                    candidates++;
                    tallyCourse(looker);
                }
            }
        }

        private void tallyCourse(int looker) {
            for (int y = 0; y <= roof.years && y <= MOST_YEARS; y++) {
                int spot = course.spot(looker, y);
                if (spot >= 0 && spot < MOST_PLACES) {
                    tally[y][spot]++;
                }
            }
        }

        int yearToAsk() {
            int best = NONE;
            int fewest = candidates;
            for (int y = 0; y <= roof.years; y++) {
                if (worstIn(y) < fewest) {
                    best = y;
                    fewest = worstIn(y);
                }
            }
            return best;
        }

        int worstIn(int year) {
            int worst = 0;
            for (int p = 0; p < MOST_PLACES; p++) {
                if (year >= 0 && year <= MOST_YEARS) {
                    worst = Math.max(worst, tally[year][p]);
                }
            }
            return worst;
        }

        private boolean canHaveBeen(Slot slot, int looker, int place) {
            course.startWith(looker, place);
            course.run(roof.law, ALL_YEARS);
            return agrees(slot, looker);
        }

        private boolean agrees(Slot slot, int looker) {
            for (int i = 0; i < slot.size; i += 3) {
                int seen = course.marksSeen(looker, (int) slot.number(i));
                int mark = (int) slot.number(i + 1);
                if ((seen >> mark & 1) != slot.number(i + 2)) {
                    return false;
                }
            }
            return true;
        }
    }

    /** A row of numbers of one WIDTH, or nothing. */
    private static final class Slot {
        final long[] numbers = new long[MOST_NUMBERS];
        boolean isHeld = false;
        int width;
        int size;

        void makeAnew(int newWidth, int newSize) {
            isHeld = true;
            width = newWidth;
            size = Math.max(0, Math.min(newSize, MOST_NUMBERS));
            for (int i = 0; i < MOST_NUMBERS; i++) {
                numbers[i] = 0;
            }
        }

        boolean hasNumbers(int start, int n) {
            return start >= 0 && n >= 0 && (long) start + n <= size;
        }

        long number(int i) {
            return hasNumbers(i, 1) ? numbers[i] : 0;
        }

        void setNumber(int i, long v) {
            if (hasNumbers(i, 1)) {
                numbers[i] = cut(v);
            }
        }

        private long cut(long v) {
            switch (width) {
                case 0: return (byte) v;
                case 1: return (short) v;
                case 2: return (int) v;
                default: return v;
            }
        }
    }
}
