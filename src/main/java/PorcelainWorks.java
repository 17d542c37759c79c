/**
 * A porcelain works: pastes, a kiln, colours, painters, services, chances, a secret and debts.
 *
 * <p>This class looks at every argument and tells refusals; the classes inside hold the state and
 * work on arguments that have been looked at.
 */
public final class PorcelainWorks {
    private static final int NOBODY = -1;
    private static final int OTHER = -2;
    private static final int STATE = -3;
    private static final int BELOW = -4;
    private static final int ROOM = -6;
    private static final int REFUSAL_KINDS = 6;

    /** Answered where there is none; it is no refusal and is not counted as one. */
    private static final int NONE = -9;

    private static final int LAST_DAY = 4000;
    private static final int FIRING_DAYS = 2;

    private static final int PASTES = 6;
    private static final int TRAITS = 4;
    private static final int RIPE = 0;
    private static final int SHRINK = 1;
    private static final int LOW = 2;
    private static final int HIGH = 3;
    private static final int[] FIRST_TRAITS = {30, 120, 1200, 1400};
    private static final int[] GREATEST_TRAITS = {200, 300, 2000, 2000};

    private static final int MOST_BATCHES = 20;
    private static final int MOST_BATCH_POUNDS = 1000;

    private static final int MOST_PIECES = 80;
    private static final int KINDS = 10;
    private static final int MOST_PIECE_POUNDS = 40;
    private static final int LEAST_SIZE = 10;
    private static final int GREATEST_SIZE = 900;

    private static final int RAW = 0;
    private static final int FIRED = 1;
    private static final int PAINTED = 2;
    private static final int BROKEN = 3;
    private static final int SOLD = 4;

    private static final int PLACES = 12;
    private static final int ALL_PLACES = (1 << PLACES) - 1;
    private static final int PLACE_TRAITS = 2;
    private static final int GAIN = 0;
    private static final int LOSS = 1;
    private static final int[] FIRST_PLACE_TRAITS = {10, 20};
    private static final int[] LEAST_PLACE_TRAITS = {1, 0};
    private static final int[] GREATEST_PLACE_TRAITS = {40, 200};

    private static final int MOST_HOURS = 48;
    private static final int MOST_WOOD = 50;

    private static final int MOST_WANTED = 8;
    private static final int GREATEST_WORTH = 999;

    private static final int COLOURS = 12;
    private static final int ALL_COLOURS = (1 << COLOURS) - 1;
    private static final int GREATEST_HEAT = 1000;

    private static final int PAINTERS = 3;
    private static final int GREATEST_SKILL = 20;
    private static final int MOST_JOBS = 8;
    private static final int GREATEST_LOAD = 500;
    private static final int ABOVE_ALL_DAYS = MOST_JOBS * GREATEST_LOAD + 1;

    private static final int WHITEST = 100;
    private static final int MOST_MATCHED = 12;

    private static final int MOST_MADE = 200;
    private static final int PARTS = 1024;
    private static final int WHOLE = 1048576;

    private static final int HANDS = 16;
    private static final int HALVES = 2;
    private static final int MOST_TALKS = 60;

    private static final int MOST_DEBTS = 6;
    private static final int MOST_LENT = 1000000;
    private static final int GREATEST_RATE = 500;
    private static final int MOST_OWED = 2000000000;
    private static final int MONTH = 30;

    private final int[] refusals = new int[REFUSAL_KINDS];
    private final Clay clay = new Clay();
    private final Pieces pieces = new Pieces();
    private final Kiln kiln = new Kiln();
    private final Stacking stacking = new Stacking();
    private final Palette palette = new Palette();
    private final Workshop workshop = new Workshop();
    private final Matching matching = new Matching();
    private final Odds odds = new Odds();
    private final Secret secret = new Secret();
    private final Ledger ledger = new Ledger();
    private int day = 0;

    public PorcelainWorks() {
    }

    public int paste(int p, int what, int v) {
        if (!within(p, PASTES)) {
            return refuse(NOBODY);
        }
        if (!within(what, TRAITS)) {
            return refuse(OTHER);
        }
        if (v < 0) {
            return refuse(BELOW);
        }
        if (v > GREATEST_TRAITS[what]) {
            return refuse(ROOM);
        }
        return clay.changeTrait(p, what, v);
    }

    public int batch(int paste, int pounds) {
        if (!within(paste, PASTES)) {
            return refuse(NOBODY);
        }
        if (pounds < 1) {
            return refuse(BELOW);
        }
        if (pounds > MOST_BATCH_POUNDS || clay.batches >= MOST_BATCHES) {
            return refuse(ROOM);
        }
        return clay.mix(paste, pounds, day);
    }

    public int days(int n) {
        if (n < 1) {
            return refuse(BELOW);
        }
        if (n > LAST_DAY - day) {
            return refuse(ROOM);
        }
        pass(n);
        return day;
    }

    public int piece(int batch, int kind, int pounds, int size) {
        if (!within(batch, clay.batches) || !within(kind, KINDS)) {
            return refuse(NOBODY);
        }
        if (!clay.isRipe(batch, day)) {
            return refuse(STATE);
        }
        if (pounds < 1 || size < LEAST_SIZE) {
            return refuse(BELOW);
        }
        if (pounds > MOST_PIECE_POUNDS || pounds > clay.batchPounds[batch]
                || size > GREATEST_SIZE || pieces.number >= MOST_PIECES) {
            return refuse(ROOM);
        }
        clay.batchPounds[batch] -= pounds;
        return pieces.shape(clay.batchPaste[batch], kind, size);
    }

    public int place(int p, int what, int v) {
        if (!within(p, PLACES)) {
            return refuse(NOBODY);
        }
        if (!within(what, PLACE_TRAITS)) {
            return refuse(OTHER);
        }
        if (v < LEAST_PLACE_TRAITS[what]) {
            return refuse(BELOW);
        }
        if (v > GREATEST_PLACE_TRAITS[what]) {
            return refuse(ROOM);
        }
        return kiln.changeTrait(p, what, v);
    }

    public int wood(int v) {
        if (v < 0) {
            return refuse(BELOW);
        }
        if (v > MOST_WOOD || kiln.hours >= MOST_HOURS) {
            return refuse(ROOM);
        }
        return kiln.tellHour(v);
    }

    public int clear() {
        return kiln.forgetHours();
    }

    public int peak(int p) {
        if (!within(p, PLACES)) {
            return refuse(NOBODY);
        }
        kiln.heatUp(kiln.hours);
        return kiln.peaks[p];
    }

    public int heat(int p, int n) {
        if (!within(p, PLACES)) {
            return refuse(NOBODY);
        }
        if (n < 0) {
            return refuse(BELOW);
        }
        if (n > kiln.hours) {
            return refuse(ROOM);
        }
        kiln.heatUp(n);
        return kiln.heats[p];
    }

    public int stack(int piece, int p) {
        if (!within(piece, pieces.number) || !within(p, PLACES)) {
            return refuse(NOBODY);
        }
        if (!isLoose(piece) || kiln.holds[p] != NONE) {
            return refuse(STATE);
        }
        putIn(piece, p);
        return 1;
    }

    public int unstack(int p) {
        if (!within(p, PLACES)) {
            return refuse(NOBODY);
        }
        int piece = kiln.holds[p];
        if (!within(piece, pieces.number)) {
            return refuse(STATE);
        }
        takeOut(piece, p);
        return piece;
    }

    public int fire() {
        if (kiln.hours == 0) {
            return refuse(STATE);
        }
        if (day > LAST_DAY - FIRING_DAYS) {
            return refuse(ROOM);
        }
        kiln.heatUp(kiln.hours);
        int fired = 0;
        for (int p = 0; p < PLACES; p++) {
            int piece = kiln.holds[p];
            if (within(piece, pieces.number)) {
                takeOut(piece, p);
                fired += pieces.endure(piece, kiln.peaks[p], clay) ? 1 : 0;
            }
        }
        kiln.burnHours();
        pass(FIRING_DAYS);
        return fired;
    }

    public int want(int piece, int worth) {
        if (!within(piece, pieces.number)) {
            return refuse(NOBODY);
        }
        if (!isLoose(piece)) {
            return refuse(STATE);
        }
        if (worth < 1) {
            return refuse(BELOW);
        }
        if (worth > GREATEST_WORTH || stacking.wanted >= MOST_WANTED) {
            return refuse(ROOM);
        }
        return stacking.tell(piece, worth);
    }

    public int best() {
        learnFits();
        return stacking.greatestWorth();
    }

    public int bestPlace(int i) {
        if (!within(i, stacking.wanted)) {
            return refuse(NOBODY);
        }
        learnFits();
        stacking.choose();
        return stacking.spots[i];
    }

    public int lay() {
        learnFits();
        stacking.choose();
        int laid = 0;
        for (int i = 0; i < stacking.wanted; i++) {
            int p = stacking.spots[i];
            if (within(p, PLACES)) {
                putIn(stacking.told[i], p);
                laid++;
            }
        }
        stacking.forget();
        return laid;
    }

    public int colour(int c, int from, int to) {
        if (!within(c, COLOURS)) {
            return refuse(NOBODY);
        }
        if (from < 0 || to < from) {
            return refuse(BELOW);
        }
        if (to > GREATEST_HEAT) {
            return refuse(ROOM);
        }
        palette.froms[c] = from;
        palette.tos[c] = to;
        return 1;
    }

    public int fires(int set) {
        if (!isColourSet(set)) {
            return refuse(NOBODY);
        }
        return palette.plan(set);
    }

    public int fireHeat(int set, int i) {
        if (!isColourSet(set) || !within(i, palette.plan(set))) {
            return refuse(NOBODY);
        }
        return palette.planned[i];
    }

    public int skill(int painter, int v) {
        if (!within(painter, PAINTERS)) {
            return refuse(NOBODY);
        }
        if (v < 1) {
            return refuse(BELOW);
        }
        if (v > GREATEST_SKILL) {
            return refuse(ROOM);
        }
        return workshop.changeSkill(painter, v);
    }

    public int job(int load) {
        if (load < 1) {
            return refuse(BELOW);
        }
        if (load > GREATEST_LOAD || workshop.jobs >= MOST_JOBS) {
            return refuse(ROOM);
        }
        return workshop.addJob(load);
    }

    public int least() {
        workshop.share();
        return workshop.shortest;
    }

    public int painter(int job) {
        if (!within(job, workshop.jobs)) {
            return NONE;
        }
        workshop.share();
        return workshop.chosen[job];
    }

    public int paint(int piece) {
        if (!within(piece, pieces.number)) {
            return refuse(NOBODY);
        }
        if (pieces.states[piece] != FIRED) {
            return refuse(STATE);
        }
        pieces.states[piece] = PAINTED;
        return 1;
    }

    public int service(int kind, int n, int t) {
        int refusal = serviceRefusal(kind, n, t);
        if (refusal != 0) {
            return refuse(refusal);
        }
        return matching.find(kind, n, t, pieces) ? matching.lacking() : NONE;
    }

    public int matched(int kind, int n, int t, int i) {
        int refusal = serviceRefusal(kind, n, t);
        if (refusal != 0) {
            return refuse(refusal);
        }
        if (!matching.find(kind, n, t, pieces) || !within(i, matching.size)) {
            return NONE;
        }
        matching.sortByNumber();
        return matching.members[i];
    }

    public int sell(int kind, int n, int t) {
        int refusal = serviceRefusal(kind, n, t);
        if (refusal != 0) {
            return refuse(refusal);
        }
        if (!matching.find(kind, n, t, pieces)) {
            return refuse(STATE);
        }
        for (int i = 0; i < matching.size; i++) {
            pieces.states[matching.members[i]] = SOLD;
        }
        return n;
    }

    public int chance(int m, int k, int w) {
        if (m < 0 || k < 0 || w < 0) {
            return refuse(BELOW);
        }
        if (m > MOST_MADE || k > MOST_MADE || w > PARTS) {
            return refuse(ROOM);
        }
        return odds.ofWhole(m, k, w);
    }

    public int make(int k, int w, int q) {
        if (k < 0 || w < 0 || q < 0) {
            return refuse(BELOW);
        }
        if (k > MOST_MADE || w > PARTS || q > WHOLE) {
            return refuse(ROOM);
        }
        return odds.fewestFor(k, w, q);
    }

    public int see(int hand, int half) {
        if (!within(hand, HANDS) || !within(half, HALVES)) {
            return refuse(NOBODY);
        }
        return secret.tellSight(hand, half, day) ? 1 : 0;
    }

    public int talk(int a, int b) {
        if (!within(a, HANDS) || !within(b, HANDS) || a == b) {
            return refuse(NOBODY);
        }
        if (secret.talkedOn(a, b, day)) {
            return 0;
        }
        if (secret.talks >= MOST_TALKS) {
            return refuse(ROOM);
        }
        secret.tellTalk(a, b, day);
        return 1;
    }

    public int knows(int hand) {
        if (!within(hand, HANDS)) {
            return refuse(NOBODY);
        }
        secret.retell(NONE);
        return secret.knownBy(hand);
    }

    public int joined() {
        secret.retell(NONE);
        return secret.joinedOn;
    }

    public int leak() {
        return secret.firstLeak();
    }

    public int debt(int owed, int rate) {
        if (owed < 0 || rate < 0) {
            return refuse(BELOW);
        }
        if (owed > MOST_LENT || rate > GREATEST_RATE || ledger.debts >= MOST_DEBTS) {
            return refuse(ROOM);
        }
        return ledger.lend(owed, rate, day);
    }

    public int pay(int debt, int v) {
        if (!within(debt, ledger.debts)) {
            return refuse(NOBODY);
        }
        if (v < 1) {
            return refuse(BELOW);
        }
        if (v > MOST_LENT || v > ledger.sums[debt]) {
            return refuse(ROOM);
        }
        ledger.sums[debt] -= v;
        return ledger.sums[debt];
    }

    public int owed(int debt, int n) {
        if (!within(debt, ledger.debts)) {
            return refuse(NOBODY);
        }
        if (n < 0) {
            return refuse(BELOW);
        }
        if (n > LAST_DAY) {
            return refuse(ROOM);
        }
        return ledger.sumAfter(debt, day, n);
    }

    public int pieceOf(int piece, int what) {
        if (!within(piece, pieces.number)) {
            return refuse(NOBODY);
        }
        switch (what) {
            case 0:
                return pieces.states[piece];
            case 1:
                return pieces.kinds[piece];
            case 2:
                return pieces.sizes[piece];
            case 3:
                return pieces.pastes[piece];
            case 4:
                return pieces.spots[piece];
            case 5:
                return pieces.peaks[piece];
            case 6:
                return pieces.whites[piece];
            default:
                return refuse(OTHER);
        }
    }

    public int count(int what) {
        if (what >= 3 && what <= 7) {
            return pieces.inState(what - 3);
        }
        if (what >= 11 && what <= 16) {
            return refusals[what - 11];
        }
        if (what >= 20) {
            return within(what - 20, clay.batches) ? clay.batchPounds[what - 20] : NONE;
        }
        switch (what) {
            case 0:
                return day;
            case 1:
                return clay.batches;
            case 2:
                return pieces.number;
            case 8:
                return kiln.hours;
            case 9:
                return kiln.burned;
            case 10:
                return secret.talks;
            default:
                return NONE;
        }
    }

    private static boolean within(int index, int size) {
        return index >= 0 && index < size;
    }

    private static boolean isColourSet(int set) {
        return (set & ~ALL_COLOURS) == 0;
    }

    private int refuse(int refusal) {
        int kind = -1 - refusal;
        if (within(kind, REFUSAL_KINDS)) {
            refusals[kind]++;
        }
        return refusal;
    }

    /** The refusal that service, matched and sell share; 0 if none fits. */
    private static int serviceRefusal(int kind, int n, int t) {
        if (!within(kind, KINDS)) {
            return NOBODY;
        }
        if (n < 1 || t < 0) {
            return BELOW;
        }
        if (n > MOST_MATCHED || t > WHITEST) {
            return ROOM;
        }
        return 0;
    }

    private void pass(int n) {
        ledger.pass(day, n);
        day += n;
    }

    /** Whether a piece may be put somewhere: raw, in no place, and not told for the best stacking. */
    private boolean isLoose(int piece) {
        return pieces.states[piece] == RAW && pieces.spots[piece] == NONE && !stacking.isTold(piece);
    }

    private void putIn(int piece, int p) {
        kiln.holds[p] = piece;
        pieces.spots[piece] = p;
    }

    private void takeOut(int piece, int p) {
        kiln.holds[p] = NONE;
        pieces.spots[piece] = NONE;
    }

    /** Tells the stacking which empty places would fire each piece by the hours of now. */
    private void learnFits() {
        kiln.heatUp(kiln.hours);
        for (int i = 0; i < stacking.wanted; i++) {
            stacking.fits[i] = placesThatFire(pieces.pastes[stacking.told[i]]);
        }
    }

    private int placesThatFire(int paste) {
        int places = 0;
        for (int p = 0; p < PLACES; p++) {
            if (kiln.holds[p] == NONE && clay.bears(paste, kiln.peaks[p])) {
                places |= 1 << p;
            }
        }
        return places;
    }

    /** The pastes with their traits, and the batches mixed of them. */
    private static final class Clay {
        private final int[] traits = new int[PASTES * TRAITS];
        private final int[] batchPaste = new int[MOST_BATCHES];
        private final int[] batchPounds = new int[MOST_BATCHES];
        private final int[] batchDay = new int[MOST_BATCHES];
        private int batches = 0;

        private Clay() {
            for (int i = 0; i < PASTES * TRAITS; i++) {
                traits[i] = FIRST_TRAITS[i % TRAITS];
            }
        }

        private int trait(int paste, int what) {
            return traits[paste * TRAITS + what];
        }

        private int changeTrait(int paste, int what, int v) {
            int before = trait(paste, what);
            traits[paste * TRAITS + what] = v;
            return before;
        }

        private int mix(int paste, int pounds, int day) {
            batchPaste[batches] = paste;
            batchPounds[batches] = pounds;
            batchDay[batches] = day;
            batches++;
            return batches - 1;
        }

        private boolean isRipe(int batch, int day) {
            return day - batchDay[batch] >= trait(batchPaste[batch], RIPE);
        }

        private boolean bears(int paste, int heat) {
            return heat >= trait(paste, LOW) && heat <= trait(paste, HIGH);
        }

        private int shrunk(int paste, int size) {
            return size - size * trait(paste, SHRINK) / 1000;
        }

        private int whiteAt(int paste, int heat) {
            int middle = (trait(paste, LOW) + trait(paste, HIGH)) / 2;
            return Math.max(0, WHITEST - Math.abs(heat - middle) / 5);
        }
    }

    /** The pieces, by their numbers. */
    private static final class Pieces {
        private final int[] pastes = new int[MOST_PIECES];
        private final int[] kinds = new int[MOST_PIECES];
        private final int[] sizes = new int[MOST_PIECES];
        private final int[] states = new int[MOST_PIECES];
        private final int[] spots = new int[MOST_PIECES];
        private final int[] peaks = new int[MOST_PIECES];
        /** Kept from the firing, for a later change of the paste changes no piece that is fired. */
        private final int[] whites = new int[MOST_PIECES];
        private int number = 0;

        private int shape(int paste, int kind, int size) {
            pastes[number] = paste;
            kinds[number] = kind;
            sizes[number] = size;
            states[number] = RAW;
            spots[number] = NONE;
            peaks[number] = NONE;
            whites[number] = NONE;
            number++;
            return number - 1;
        }

        /** Fires or breaks a piece whose place had this peak: whether it is fired. */
        private boolean endure(int piece, int heat, Clay clay) {
            peaks[piece] = heat;
            if (!clay.bears(pastes[piece], heat)) {
                states[piece] = BROKEN;
                return false;
            }
            states[piece] = FIRED;
            sizes[piece] = clay.shrunk(pastes[piece], sizes[piece]);
            whites[piece] = clay.whiteAt(pastes[piece], heat);
            return true;
        }

        private boolean isForSale(int piece) {
            return states[piece] == FIRED || states[piece] == PAINTED;
        }

        private int inState(int state) {
            int found = 0;
            for (int i = 0; i < number; i++) {
                if (states[i] == state) {
                    found++;
                }
            }
            return found;
        }
    }

    /** The places of the kiln, what stands in them, and the hours that are told. */
    private static final class Kiln {
        private final int[] traits = new int[PLACES * PLACE_TRAITS];
        private final int[] holds = new int[PLACES];
        private final int[] heats = new int[PLACES];
        private final int[] raised = new int[PLACES];
        private final int[] peaks = new int[PLACES];
        private final int[] woods = new int[MOST_HOURS];
        private int hours = 0;
        private int burned = 0;

        private Kiln() {
            for (int i = 0; i < PLACES * PLACE_TRAITS; i++) {
                traits[i] = FIRST_PLACE_TRAITS[i % PLACE_TRAITS];
            }
            for (int p = 0; p < PLACES; p++) {
                holds[p] = NONE;
            }
        }

        private int trait(int p, int what) {
            return traits[p * PLACE_TRAITS + what];
        }

        private int changeTrait(int p, int what, int v) {
            int before = trait(p, what);
            traits[p * PLACE_TRAITS + what] = v;
            return before;
        }

        private int tellHour(int wood) {
            woods[hours] = wood;
            hours++;
            return hours;
        }

        private int forgetHours() {
            int before = hours;
            hours = 0;
            return before;
        }

        private void burnHours() {
            for (int h = 0; h < hours; h++) {
                burned += woods[h];
            }
            hours = 0;
        }

        /** Leaves in heats and peaks what they are behind the first n hours. */
        private void heatUp(int n) {
            for (int p = 0; p < PLACES; p++) {
                heats[p] = 0;
                peaks[p] = 0;
            }
            for (int h = 0; h < n; h++) {
                heatHour(woods[h]);
            }
        }

        private void heatHour(int wood) {
            for (int p = 0; p < PLACES; p++) {
                raised[p] = heats[p] + trait(p, GAIN) * wood - heats[p] * trait(p, LOSS) / 1000;
            }
            for (int p = 0; p < PLACES; p++) {
                heats[p] = raised[p] + besideAbove(p) / 10;
                peaks[p] = Math.max(peaks[p], heats[p]);
            }
        }

        /** How much the places beside one are above it, together; below 0 if they are colder. */
        private int besideAbove(int p) {
            int sum = 0;
            if (p > 0) {
                sum += raised[p - 1] - raised[p];
            }
            if (p < PLACES - 1) {
                sum += raised[p + 1] - raised[p];
            }
            return sum;
        }
    }

    /** The pieces that are told for the best stacking, and the search for it. */
    private static final class Stacking {
        private final int[] told = new int[MOST_WANTED];
        private final int[] worths = new int[MOST_WANTED];
        /** Which empty places would fire the piece, as bits. */
        private final int[] fits = new int[MOST_WANTED];
        /** Places of the pieces in the best way. */
        private final int[] spots = new int[MOST_WANTED];
        /** The pieces, the greatest worth first. */
        private final int[] order = new int[MOST_WANTED];
        /** In a trial: the place of each piece, the piece at each place. */
        private final int[] seats = new int[MOST_WANTED];
        private final int[] sitters = new int[PLACES];
        /** In a trial: which piece would move to this place so that another one has room. */
        private final int[] movers = new int[PLACES];
        private int wanted = 0;

        private boolean isTold(int piece) {
            for (int i = 0; i < wanted; i++) {
                if (told[i] == piece) {
                    return true;
                }
            }
            return false;
        }

        private int tell(int piece, int worth) {
            told[wanted] = piece;
            worths[wanted] = worth;
            int at = wanted;
            while (at > 0 && worths[order[at - 1]] < worth) {
                order[at] = order[at - 1];
                at--;
            }
            order[at] = wanted;
            wanted++;
            return wanted;
        }

        private void forget() {
            wanted = 0;
        }

        private int greatestWorth() {
            return worthFrom(0, ALL_PLACES);
        }

        /** Gives each piece, the first one first, the least place that keeps the worth greatest. */
        private void choose() {
            int free = ALL_PLACES;
            int due = greatestWorth();
            for (int i = 0; i < wanted; i++) {
                int p = leastSpot(i, free, due);
                spots[i] = p;
                if (p != NONE) {
                    free &= ~(1 << p);
                    due -= worths[i];
                }
            }
        }

        private int leastSpot(int i, int free, int due) {
            for (int p = 0; p < PLACES; p++) {
                int bit = 1 << p;
                if ((fits[i] & free & bit) != 0
                        && worths[i] + worthFrom(i + 1, free & ~bit) == due) {
                    return p;
                }
            }
            return NONE;
        }

        /**
         * The greatest worth of the pieces from one on in the free places. Taking the worthiest
         * first is right here: a piece that got a place keeps one, whoever comes behind it.
         */
        private int worthFrom(int from, int free) {
            for (int i = 0; i < wanted; i++) {
                seats[i] = NONE;
            }
            for (int p = 0; p < PLACES; p++) {
                sitters[p] = NONE;
            }
            int sum = 0;
            for (int k = 0; k < wanted; k++) {
                int i = order[k];
                if (i >= from && findSeat(i, free)) {
                    sum += worths[i];
                }
            }
            return sum;
        }

        /** Seats a piece, moving others to other places if it must: whether that can be. */
        private boolean findSeat(int i, int free) {
            int reached = fits[i] & free;
            int waiting = reached;
            noteMover(reached, i);
            for (int step = 0; step < PLACES && waiting != 0; step++) {
                int p = Integer.numberOfTrailingZeros(waiting);
                waiting &= waiting - 1;
                int sitter = sitters[p];
                if (sitter == NONE) {
                    moveAlong(p);
                    return true;
                }
                int more = fits[sitter] & free & ~reached;
                noteMover(more, sitter);
                reached |= more;
                waiting |= more;
            }
            return false;
        }

        private void noteMover(int places, int i) {
            for (int p = 0; p < PLACES; p++) {
                if ((places & (1 << p)) != 0) {
                    movers[p] = i;
                }
            }
        }

        /** Moves the mover of an empty place there, then that of the place it left, and so on. */
        private void moveAlong(int empty) {
            int p = empty;
            for (int step = 0; step < PLACES && p != NONE; step++) {
                int mover = movers[p];
                int left = seats[mover];
                seats[mover] = p;
                sitters[p] = mover;
                p = left;
            }
        }
    }

    /** The colours, and the fires that fix a set of them. */
    private static final class Palette {
        private final int[] froms = new int[COLOURS];
        private final int[] tos = new int[COLOURS];
        private final int[] planned = new int[COLOURS];

        /** Leaves the heats in planned, the hottest first: how many there are. */
        private int plan(int set) {
            int left = set;
            int fires = 0;
            for (int step = 0; step < COLOURS && left != 0; step++) {
                int heat = greatestFrom(left);
                planned[fires] = heat;
                fires++;
                left = stillUnfixed(left, heat);
            }
            return fires;
        }

        /** No fire below this one would fix them all, and a hotter one fixes none that this does not. */
        private int greatestFrom(int set) {
            int greatest = 0;
            for (int c = 0; c < COLOURS; c++) {
                if ((set & (1 << c)) != 0) {
                    greatest = Math.max(greatest, froms[c]);
                }
            }
            return greatest;
        }

        private int stillUnfixed(int set, int heat) {
            int left = set;
            for (int c = 0; c < COLOURS; c++) {
                if (froms[c] <= heat && heat <= tos[c]) {
                    left &= ~(1 << c);
                }
            }
            return left;
        }
    }

    /** The painters, the jobs, and how the jobs are shared. */
    private static final class Workshop {
        private final int[] skills = new int[PAINTERS];
        private final int[] loads = new int[MOST_JOBS];
        private final int[] trial = new int[MOST_JOBS];
        private final int[] chosen = new int[MOST_JOBS];
        private final int[] busy = new int[PAINTERS];
        private int jobs = 0;
        private int shortest = 0;
        private boolean shared = true;

        private Workshop() {
            for (int p = 0; p < PAINTERS; p++) {
                skills[p] = 1;
            }
        }

        private int changeSkill(int painter, int v) {
            int before = skills[painter];
            skills[painter] = v;
            shared = false;
            return before;
        }

        private int addJob(int load) {
            loads[jobs] = load;
            jobs++;
            shared = false;
            return jobs - 1;
        }

        /** Leaves the best way in chosen and its days in shortest. */
        private void share() {
            if (shared) {
                return;
            }
            for (int p = 0; p < PAINTERS; p++) {
                busy[p] = 0;
            }
            shortest = ABOVE_ALL_DAYS;
            shareFrom(this, 0, 0);
            shared = true;
        }

        /**
         * Tries all ways for the jobs from one on, the least painter first. A way is kept only if it
         * is shorter than the one before, so of several alike the first one stays.
         */
        private static void shareFrom(Workshop shop, int job, int longest) {
            if (longest >= shop.shortest) {
                return;
            }
            if (job >= shop.jobs || job >= MOST_JOBS) {
                shop.keepTrial(longest);
                return;
            }
            for (int p = 0; p < PAINTERS; p++) {
                int days = shop.daysFor(job, p);
                shop.trial[job] = p;
                shop.busy[p] += days;
                shareFrom(shop, job + 1, Math.max(longest, shop.busy[p]));
                shop.busy[p] -= days;
            }
        }

        private void keepTrial(int longest) {
            shortest = longest;
            for (int j = 0; j < jobs; j++) {
                chosen[j] = trial[j];
            }
        }

        private int daysFor(int job, int painter) {
            int skill = Math.max(1, skills[painter]);
            return (loads[job] + skill - 1) / skill;
        }
    }

    /** The search for pieces of a kind that are alike in white. */
    private static final class Matching {
        private final int[] row = new int[MOST_PIECES];
        private final int[] whites = new int[MOST_PIECES];
        private final int[] members = new int[MOST_MATCHED];
        private int candidates = 0;
        private int start = 0;
        private int size = 0;

        /** Leaves the matched pieces in members, the whitest first: whether there are any. */
        private boolean find(int kind, int n, int t, Pieces pieces) {
            gather(kind, pieces);
            size = 0;
            for (int first = 0; first + n <= candidates; first++) {
                if (whites[first] - whites[first + n - 1] <= t) {
                    start = first;
                    take(n);
                    return true;
                }
            }
            return false;
        }

        /** Puts all pieces of a kind in the row, the whitest first, alike ones by numbers. */
        private void gather(int kind, Pieces pieces) {
            candidates = 0;
            for (int i = 0; i < pieces.number; i++) {
                if (pieces.kinds[i] == kind && pieces.isForSale(i)) {
                    insert(i, pieces.whites[i]);
                }
            }
        }

        private void insert(int piece, int white) {
            int at = candidates;
            while (at > 0 && whites[at - 1] < white) {
                row[at] = row[at - 1];
                whites[at] = whites[at - 1];
                at--;
            }
            row[at] = piece;
            whites[at] = white;
            candidates++;
        }

        private void take(int n) {
            for (int i = 0; i < n; i++) {
                members[i] = row[start + i];
            }
            size = n;
        }

        /** How much less than 100 the whites of the members are, together. */
        private int lacking() {
            int sum = 0;
            for (int i = 0; i < size; i++) {
                sum += WHITEST - whites[start + i];
            }
            return sum;
        }

        private void sortByNumber() {
            for (int i = 1; i < size; i++) {
                int piece = members[i];
                int at = i;
                while (at > 0 && members[at - 1] > piece) {
                    members[at] = members[at - 1];
                    at--;
                }
                members[at] = piece;
            }
        }
    }

    /** The row of parts: how likely each number of whole pieces is. */
    private static final class Odds {
        private final int[] row = new int[MOST_MADE + 1];

        private int ofWhole(int m, int k, int w) {
            begin();
            for (int made = 1; made <= m; made++) {
                makeOneMore(made, w);
            }
            return orMore(k, m);
        }

        private int fewestFor(int k, int w, int q) {
            begin();
            if (orMore(k, 0) >= q) {
                return 0;
            }
            for (int made = 1; made <= MOST_MADE; made++) {
                makeOneMore(made, w);
                if (orMore(k, made) >= q) {
                    return made;
                }
            }
            return NONE;
        }

        private void begin() {
            for (int j = 0; j <= MOST_MADE; j++) {
                row[j] = 0;
            }
            row[0] = WHOLE;
        }

        /** Goes from the top down, so that what was at j - 1 is still there when j needs it. */
        private void makeOneMore(int made, int w) {
            int broken = PARTS - w;
            for (int j = made; j >= 1; j--) {
                row[j] = (row[j] * broken + row[j - 1] * w) / PARTS;
            }
            row[0] = row[0] * broken / PARTS;
        }

        private int orMore(int k, int made) {
            int sum = 0;
            for (int j = k; j <= made; j++) {
                sum += row[j];
            }
            return sum;
        }
    }

    /** What hands saw and which hands talked, in the order in which it was told. */
    private static final class Secret {
        private final int[] sightHand = new int[HANDS * HALVES];
        private final int[] sightHalf = new int[HANDS * HALVES];
        private final int[] sightDay = new int[HANDS * HALVES];
        private final int[] talkA = new int[MOST_TALKS];
        private final int[] talkB = new int[MOST_TALKS];
        private final int[] talkDay = new int[MOST_TALKS];
        /** Of each half the hands that know it, as bits. */
        private final int[] knowers = new int[HALVES];
        private final int[] before = new int[HALVES];
        private int sights = 0;
        private int talks = 0;
        private int joinedOn = NONE;

        /** Whether it is new. */
        private boolean tellSight(int hand, int half, int day) {
            for (int s = 0; s < sights; s++) {
                if (sightHand[s] == hand && sightHalf[s] == half) {
                    return false;
                }
            }
            if (sights >= HANDS * HALVES) {
                return false;
            }
            sightHand[sights] = hand;
            sightHalf[sights] = half;
            sightDay[sights] = day;
            sights++;
            return true;
        }

        private boolean talkedOn(int a, int b, int day) {
            for (int t = 0; t < talks; t++) {
                boolean same = talkA[t] == a && talkB[t] == b;
                boolean turned = talkA[t] == b && talkB[t] == a;
                if (talkDay[t] == day && (same || turned)) {
                    return true;
                }
            }
            return false;
        }

        private void tellTalk(int a, int b, int day) {
            talkA[talks] = a;
            talkB[talks] = b;
            talkDay[talks] = day;
            talks++;
        }

        /** Goes through all days again, without one talk, and leaves what is known at the end. */
        private void retell(int leftOut) {
            knowers[0] = 0;
            knowers[1] = 0;
            joinedOn = NONE;
            int sight = 0;
            int talk = 0;
            for (int step = 0; step < MOST_TALKS && talk < talks; step++) {
                sight = seeTill(sight, talkDay[talk]);
                talk = talkAllDay(talk, leftOut);
            }
            seeTill(sight, LAST_DAY);
        }

        /** Goes through the sights till the end of a day: the number of the next one. */
        private int seeTill(int first, int day) {
            int s = first;
            while (s < sights && sightDay[s] <= day) {
                knowers[sightHalf[s]] |= 1 << sightHand[s];
                noteJoined(sightDay[s]);
                s++;
            }
            return s;
        }

        /** Goes through the talks of the day of one: the number of the next one. */
        private int talkAllDay(int first, int leftOut) {
            int day = talkDay[first];
            before[0] = knowers[0];
            before[1] = knowers[1];
            int t = first;
            while (t < talks && talkDay[t] == day) {
                if (t != leftOut) {
                    exchange(talkA[t], talkB[t]);
                }
                t++;
            }
            noteJoined(day);
            return t;
        }

        private void exchange(int a, int b) {
            int both = (1 << a) | (1 << b);
            for (int half = 0; half < HALVES; half++) {
                if ((before[half] & both) != 0) {
                    knowers[half] |= both;
                }
            }
        }

        private void noteJoined(int day) {
            if (joinedOn == NONE && (knowers[0] & knowers[1]) != 0) {
                joinedOn = day;
            }
        }

        private int knownBy(int hand) {
            return ((knowers[0] >> hand) & 1) + 2 * ((knowers[1] >> hand) & 1);
        }

        private int firstLeak() {
            retell(NONE);
            if (joinedOn == NONE) {
                return NONE;
            }
            for (int t = 0; t < talks; t++) {
                retell(t);
                if (joinedOn == NONE) {
                    return t;
                }
            }
            return NONE;
        }
    }

    /** The debts; their sums are always those of the present day. */
    private static final class Ledger {
        private final int[] sums = new int[MOST_DEBTS];
        private final int[] rates = new int[MOST_DEBTS];
        private final int[] madeOn = new int[MOST_DEBTS];
        private int debts = 0;

        private int lend(int sum, int rate, int day) {
            sums[debts] = sum;
            rates[debts] = rate;
            madeOn[debts] = day;
            debts++;
            return debts - 1;
        }

        private void pass(int day, int n) {
            for (int d = 0; d < debts; d++) {
                sums[d] = sumAfter(d, day, n);
            }
        }

        private int sumAfter(int debt, int day, int n) {
            int age = day - madeOn[debt];
            int months = (age + n) / MONTH - age / MONTH;
            long sum = sums[debt];
            for (int i = 0; i < months; i++) {
                sum = Math.min(MOST_OWED, sum + sum * rates[debt] / 1000);
            }
            return (int) sum;
        }
    }
}
