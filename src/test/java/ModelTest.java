import java.math.BigInteger;
import java.util.ArrayDeque;
import java.util.ArrayList;
import java.util.Arrays;
import java.util.Deque;
import java.util.HashMap;
import java.util.List;
import java.util.Map;
import java.util.Random;
import java.util.TreeSet;

/** Random runs, from fixed seeds, against a slow model that tries all ways. */
public final class ModelTest {
    private static final int RUNS = 900;
    private static final int CALLS = 512;

    private static int wrong = 0;

    public static void main(String[] args) {
        for (int seed = 0; seed < RUNS && wrong < 20; seed++) {
            run(seed);
        }
        System.out.println(wrong == 0 ? "all answers are as due" : wrong + " answers are not as due");
        if (wrong != 0) {
            System.exit(1);
        }
    }

    private static void run(int seed) {
        Random random = new Random(seed);
        Caller caller = new Caller(random, seed % Caller.BENTS.length);
        for (int i = 0; i < CALLS; i++) {
            int[] call = caller.next();
            int got = onWorks(caller.works, call);
            int want = onModel(caller.model, call);
            if (got != want) {
                wrong++;
                System.out.println("seed " + seed + ", call " + i + ": " + Arrays.toString(call)
                        + " answered " + got + ", due is " + want);
                return;
            }
        }
    }

    /**
     * Chooses calls; each run has a bent, so that runs go deep somewhere: all calls alike, clay and kiln,
     * the best stacking, crafts, the house, services, the kiln filled and fired again and again, and
     * hours and days till there is no room for more.
     */
    private static final class Caller {
        private static final int[][] BENTS = {
            {},
            {1, 2, 2, 3, 4, 4, 4, 4, 5, 6, 6, 8, 10, 10, 12, 38, 39},
            {4, 4, 4, 4, 4, 5, 5, 5, 13, 13, 13, 13, 13, 13, 14, 14, 15, 15, 15, 15, 15, 10, 11},
            {17, 17, 17, 18, 19, 20, 21, 22, 22, 23, 23, 28, 29, 39},
            {30, 30, 31, 31, 31, 31, 3, 32, 33, 34, 34, 35, 36, 37, 37, 39},
            {1, 4, 4, 4, 4, 5, 10, 10, 10, 10, 10, 10, 10, 10, 6, 12, 24, 25, 25, 25, 26, 26, 26, 38},
            {4, 4, 4, 4, 13, 13, 13, 13, 13, 13, 13, 14, 15, 15, 15, 16, 10, 11, 6, 6, 12, 24, 27, 27, 25, 26, 38, 39, 5},
            {6, 6, 6, 6, 6, 6, 6, 6, 6, 3, 3, 3, 9, 9, 8, 2, 4, 10, 12, 35, 36, 37, 37, 30, 31, 34, 39},
        };
        private static final int STACKING = 2;
        private static final int SERVICES = 5;
        private static final int AGAIN = 6;
        private static final int LONG = 7;
        private final PorcelainWorks works = new PorcelainWorks();
        private final Model model = new Model();
        private final Random random;
        private final int bent;
        private final boolean fewHeats;
        private final boolean fewKinds;
        private final Deque<int[]> first = new ArrayDeque<>();

        Caller(Random random, int bent) {
            this.random = random;
            this.bent = bent;
            this.fewHeats = random.nextBoolean();
            this.fewKinds = random.nextBoolean();
            if (ripensAtOnce()) {
                prepare();
            }
        }

        private boolean ripensAtOnce() {
            return bent == STACKING || bent == SERVICES || bent == AGAIN;
        }

        /** Pastes that are ripe at once, so that there are pieces; narrow ones where places matter. */
        private void prepare() {
            for (int p = 0; p < 6; p++) {
                boolean narrow = bent == STACKING || bent == AGAIN && random.nextBoolean();
                int low = narrow ? 50 + random.nextInt(300) : random.nextInt(80);
                int high = narrow ? low + random.nextInt(120) : 600 + random.nextInt(600);
                first.add(new int[] {1, p, 0, 0});
                first.add(new int[] {1, p, 2, low});
                first.add(new int[] {1, p, 3, high});
                first.add(new int[] {2, p, 900});
            }
            for (int p = 0; p < 12; p++) {
                first.add(new int[] {5, p, 0, 1 + random.nextInt(40)});
            }
            first.add(new int[] {6, 5 + random.nextInt(10)});
        }

        int[] next() {
            if (!first.isEmpty()) {
                return first.remove();
            }
            int[] own = BENTS[bent];
            int method = own.length == 0 || random.nextInt(bent == STACKING ? 80 : bent == LONG ? 30 : 8) == 0
                    ? 1 + random.nextInt(39) : own[random.nextInt(own.length)];
            if (method == 3 && bent != 4 && bent != LONG && random.nextInt(3) != 0) {
                method = 39;
            }
            if (bent == LONG && (method == 7 || method == 12) && random.nextInt(6) != 0) {
                method = 9;
            }
            return callOf(method);
        }

        private int any(int least, int greatest) {
            int wild = random.nextInt(120);
            if (wild == 0) {
                return least - 1;
            }
            if (wild == 1) {
                return greatest + 1;
            }
            if (wild == 2) {
                return random.nextInt();
            }
            if (wild == 3) {
                return random.nextBoolean() ? Integer.MIN_VALUE : Integer.MAX_VALUE;
            }
            if (wild < 8) {
                return random.nextBoolean() ? least : greatest;
            }
            return greatest < least ? least : least + random.nextInt(greatest - least + 1);
        }

        private int anyPiece() {
            int last = model.pieces.size() - 1;
            return random.nextBoolean() ? any(Math.max(0, last - 12), last) : any(0, last);
        }

        private int trait(int what) {
            switch (what) {
                case 0:
                    return random.nextBoolean() ? 0 : any(0, 200);
                case 1:
                    return any(0, 300);
                case 2:
                    return random.nextInt(4) == 0 ? any(0, 2000) : any(0, 150);
                default:
                    return random.nextInt(4) == 0 ? any(0, 2000) : any(200, 1400);
            }
        }

        private int[] callOf(int method) {
            switch (method) {
                case 1: {
                    int what = any(0, 3);
                    boolean ripe = what == 0 && ripensAtOnce();
                    return new int[] {1, any(0, 5), what, ripe ? 0 : trait(what)};
                }
                case 2:
                    return new int[] {2, any(0, 5), any(1, 1000)};
                case 3:
                    return new int[] {3, random.nextInt(bent == LONG ? 2 : 5) == 0 ? any(1, 300) : any(1, 4)};
                case 4:
                    return new int[] {4, any(0, model.batches.size() - 1),
                        fewKinds ? random.nextInt(2) : any(0, 9), any(1, 40), any(10, 900)};
                case 5: {
                    int what = any(0, 1);
                    return new int[] {5, any(0, 11), what, what == 0 ? any(1, 40) : any(0, 200)};
                }
                case 6:
                    return new int[] {6, bent == AGAIN ? any(3, 14) : random.nextBoolean() ? any(0, 50) : any(0, 9)};
                case 8:
                    return new int[] {8, any(0, 11)};
                case 9:
                    return new int[] {9, any(0, 11), any(0, model.hours.size())};
                case 10:
                    return new int[] {10, anyPiece(), any(0, 11)};
                case 11:
                    return new int[] {11, any(0, 11)};
                case 13:
                    return new int[] {13, anyPiece(), random.nextBoolean() ? any(1, 3) : any(1, 999)};
                case 15:
                    return new int[] {15, any(0, model.told.size() - 1)};
                case 17:
                    return fewHeats ? new int[] {17, any(0, 11), any(0, 9), any(0, 9)}
                            : new int[] {17, any(0, 11), any(0, 1000), any(0, 1000)};
                case 18:
                    return new int[] {18, any(0, 4095)};
                case 19:
                    return new int[] {19, any(0, 4095), any(0, 4)};
                case 20:
                    return new int[] {20, any(0, 2), any(1, 20)};
                case 21:
                    return new int[] {21, any(1, 500)};
                case 23:
                    return new int[] {23, any(0, model.loads.size() - 1)};
                case 24:
                    return new int[] {24, anyPiece()};
                case 25:
                    return new int[] {25, any(0, fewKinds ? 1 : 9), any(1, fewKinds ? 12 : 3), any(0, 100)};
                case 26:
                    return new int[] {26, any(0, fewKinds ? 1 : 9), any(1, fewKinds ? 12 : 3), any(0, 100),
                        any(0, 5)};
                case 27:
                    return new int[] {27, any(0, fewKinds ? 1 : 9), any(1, 3), any(0, 30)};
                case 28:
                    return new int[] {28, any(0, 200), any(0, 200), any(0, 1024)};
                case 29:
                    return new int[] {29, any(0, 60), any(0, 1024), any(0, 1048576)};
                case 30:
                    return new int[] {30, any(0, 15), any(0, 1)};
                case 31:
                    return new int[] {31, any(0, 15), any(0, 15)};
                case 32:
                    return new int[] {32, any(0, 15)};
                case 35:
                    return new int[] {35, any(0, 1000000), any(0, 500)};
                case 36:
                    return new int[] {36, any(0, model.debts.size() - 1), any(1, 1000000)};
                case 37:
                    return new int[] {37, any(0, model.debts.size() - 1), any(0, 4000)};
                case 38:
                    return new int[] {38, anyPiece(), any(0, 6)};
                case 39:
                    return new int[] {39, any(0, 41)};
                default:
                    return new int[] {method};
            }
        }
    }

    private static int onWorks(PorcelainWorks x, int[] c) {
        switch (c[0]) {
            case 1: return x.paste(c[1], c[2], c[3]);
            case 2: return x.batch(c[1], c[2]);
            case 3: return x.days(c[1]);
            case 4: return x.piece(c[1], c[2], c[3], c[4]);
            case 5: return x.place(c[1], c[2], c[3]);
            case 6: return x.wood(c[1]);
            case 7: return x.clear();
            case 8: return x.peak(c[1]);
            case 9: return x.heat(c[1], c[2]);
            case 10: return x.stack(c[1], c[2]);
            case 11: return x.unstack(c[1]);
            case 12: return x.fire();
            case 13: return x.want(c[1], c[2]);
            case 14: return x.best();
            case 15: return x.bestPlace(c[1]);
            case 16: return x.lay();
            case 17: return x.colour(c[1], c[2], c[3]);
            case 18: return x.fires(c[1]);
            case 19: return x.fireHeat(c[1], c[2]);
            case 20: return x.skill(c[1], c[2]);
            case 21: return x.job(c[1]);
            case 22: return x.least();
            case 23: return x.painter(c[1]);
            case 24: return x.paint(c[1]);
            case 25: return x.service(c[1], c[2], c[3]);
            case 26: return x.matched(c[1], c[2], c[3], c[4]);
            case 27: return x.sell(c[1], c[2], c[3]);
            case 28: return x.chance(c[1], c[2], c[3]);
            case 29: return x.make(c[1], c[2], c[3]);
            case 30: return x.see(c[1], c[2]);
            case 31: return x.talk(c[1], c[2]);
            case 32: return x.knows(c[1]);
            case 33: return x.joined();
            case 34: return x.leak();
            case 35: return x.debt(c[1], c[2]);
            case 36: return x.pay(c[1], c[2]);
            case 37: return x.owed(c[1], c[2]);
            case 38: return x.pieceOf(c[1], c[2]);
            default: return x.count(c[1]);
        }
    }

    private static int onModel(Model x, int[] c) {
        int answer;
        try {
            answer = x.answer(c);
        } catch (Refusal refusal) {
            x.refusals[-refusal.number]++;
            answer = refusal.number;
        }
        return answer;
    }

    private static final class Refusal extends RuntimeException {
        private static final long serialVersionUID = 1L;
        private final int number;

        Refusal(int number) {
            super(null, null, false, false);
            this.number = number;
        }
    }

    private static final class Batch {
        private int paste;
        private int pounds;
        private int day;
    }

    private static final class Piece {
        private int number;
        private int paste;
        private int kind;
        private int size;
        private int state = 0;
        private int place = -9;
        private int peak = -9;
        /** LOW and HIGH of its paste at the firing. */
        private int lowThen;
        private int highThen;
        private boolean told = false;
        private int worth;
    }

    private static final class Debt {
        private long sum;
        private int rate;
        private int made;
    }

    private static final class Model {
        private int day = 0;
        private int burned = 0;
        private final int[] refusals = new int[7];
        private final int[][] pastes = new int[6][];
        private final int[][] places = new int[12][];
        private final List<Batch> batches = new ArrayList<>();
        private final List<Piece> pieces = new ArrayList<>();
        private final List<Piece> told = new ArrayList<>();
        private final List<Integer> hours = new ArrayList<>();
        private final int[][] colours = new int[12][2];
        private final int[] skills = {1, 1, 1};
        private final List<Integer> loads = new ArrayList<>();
        private final Map<Integer, Integer> sights = new HashMap<>();
        private final List<int[]> talks = new ArrayList<>();
        private final List<Debt> debts = new ArrayList<>();

        Model() {
            for (int p = 0; p < 6; p++) {
                pastes[p] = new int[] {30, 120, 1200, 1400};
            }
            for (int p = 0; p < 12; p++) {
                places[p] = new int[] {10, 20};
            }
        }

        private static void refuseIf(boolean fits, int number) {
            if (fits) {
                throw new Refusal(number);
            }
        }

        private static boolean no(int v, int size) {
            return v < 0 || v >= size;
        }

        private int answer(int[] c) {
            if (c[0] <= 12) {
                return kilnAnswer(c);
            }
            if (c[0] <= 27) {
                return craftAnswer(c);
            }
            return houseAnswer(c);
        }

        private int kilnAnswer(int[] c) {
            switch (c[0]) {
                case 1: return paste(c[1], c[2], c[3]);
                case 2: return batch(c[1], c[2]);
                case 3:
                    refuseIf(c[1] < 1, -4);
                    refuseIf((long) day + c[1] > 4000, -6);
                    pass(c[1]);
                    return day;
                case 4: return piece(c[1], c[2], c[3], c[4]);
                case 5: return place(c[1], c[2], c[3]);
                case 6:
                    refuseIf(c[1] < 0, -4);
                    refuseIf(c[1] > 50 || hours.size() == 48, -6);
                    hours.add(c[1]);
                    return hours.size();
                case 7: {
                    int before = hours.size();
                    hours.clear();
                    return before;
                }
                case 8:
                    refuseIf(no(c[1], 12), -1);
                    return peak(c[1]);
                case 9:
                    refuseIf(no(c[1], 12), -1);
                    refuseIf(c[2] < 0, -4);
                    refuseIf(c[2] > hours.size(), -6);
                    return heats().get(c[2])[c[1]];
                case 10: {
                    refuseIf(no(c[1], pieces.size()) || no(c[2], 12), -1);
                    Piece piece = pieces.get(c[1]);
                    refuseIf(piece.state != 0 || piece.place != -9 || piece.told || at(c[2]) != null, -3);
                    piece.place = c[2];
                    return 1;
                }
                case 11: {
                    refuseIf(no(c[1], 12), -1);
                    refuseIf(at(c[1]) == null, -3);
                    Piece piece = at(c[1]);
                    piece.place = -9;
                    return piece.number;
                }
                default: return fire();
            }
        }

        private int craftAnswer(int[] c) {
            switch (c[0]) {
                case 13: return want(c[1], c[2]);
                case 14: return bestWay()[told.size()];
                case 15:
                    refuseIf(no(c[1], told.size()), -1);
                    return bestWay()[c[1]];
                case 16: return lay();
                case 17:
                    refuseIf(no(c[1], 12), -1);
                    refuseIf(c[2] < 0 || c[3] < c[2], -4);
                    refuseIf(c[2] > 1000 || c[3] > 1000, -6);
                    colours[c[1]] = new int[] {c[2], c[3]};
                    return 1;
                case 18: return fires(c[1]).length;
                case 19: {
                    int[] heats = fires(c[1]);
                    refuseIf(no(c[2], heats.length), -1);
                    return heats[c[2]];
                }
                case 20: {
                    refuseIf(no(c[1], 3), -1);
                    refuseIf(c[2] < 1, -4);
                    refuseIf(c[2] > 20, -6);
                    int before = skills[c[1]];
                    skills[c[1]] = c[2];
                    return before;
                }
                case 21:
                    refuseIf(c[1] < 1, -4);
                    refuseIf(c[1] > 500 || loads.size() == 8, -6);
                    loads.add(c[1]);
                    return loads.size() - 1;
                case 22: return sharing()[loads.size()];
                case 23: return no(c[1], loads.size()) ? -9 : sharing()[c[1]];
                case 24:
                    refuseIf(no(c[1], pieces.size()), -1);
                    refuseIf(pieces.get(c[1]).state != 1, -3);
                    pieces.get(c[1]).state = 2;
                    return 1;
                default: return serviceAnswer(c);
            }
        }

        private int serviceAnswer(int[] c) {
            refuseIf(no(c[1], 10), -1);
            refuseIf(c[2] < 1 || c[3] < 0, -4);
            refuseIf(c[2] > 12 || c[3] > 100, -6);
            List<Piece> matched = matched(c[1], c[2], c[3]);
            if (c[0] == 25) {
                return matched == null ? -9 : lacking(matched);
            }
            if (c[0] == 26) {
                return matched == null || no(c[4], matched.size()) ? -9 : matched.get(c[4]).number;
            }
            refuseIf(matched == null, -3);
            for (Piece piece : matched) {
                piece.state = 4;
            }
            return c[2];
        }

        private int houseAnswer(int[] c) {
            switch (c[0]) {
                case 28:
                    refuseIf(c[1] < 0 || c[2] < 0 || c[3] < 0, -4);
                    refuseIf(c[1] > 200 || c[2] > 200 || c[3] > 1024, -6);
                    return chance(c[1], c[2], c[3]);
                case 29: return make(c[1], c[2], c[3]);
                case 30:
                    refuseIf(no(c[1], 16) || no(c[2], 2), -1);
                    return sights.putIfAbsent(c[1] * 2 + c[2], day) == null ? 1 : 0;
                case 31: return talk(c[1], c[2]);
                case 32:
                    refuseIf(no(c[1], 16), -1);
                    return known(-1)[c[1]];
                case 33: return known(-1)[16];
                case 34: return leak();
                case 35: return debt(c[1], c[2]);
                case 36: {
                    refuseIf(no(c[1], debts.size()), -1);
                    refuseIf(c[2] < 1, -4);
                    Debt debt = debts.get(c[1]);
                    refuseIf(c[2] > 1000000 || c[2] > debt.sum, -6);
                    debt.sum -= c[2];
                    return (int) debt.sum;
                }
                case 37:
                    refuseIf(no(c[1], debts.size()), -1);
                    refuseIf(c[2] < 0, -4);
                    refuseIf(c[2] > 4000, -6);
                    return (int) grown(debts.get(c[1]), c[2]);
                case 38: return pieceOf(c[1], c[2]);
                default: return count(c[1]);
            }
        }

        private int paste(int p, int what, int v) {
            refuseIf(no(p, 6), -1);
            refuseIf(no(what, 4), -2);
            refuseIf(v < 0, -4);
            refuseIf(v > (what == 0 ? 200 : what == 1 ? 300 : 2000), -6);
            int before = pastes[p][what];
            pastes[p][what] = v;
            return before;
        }

        private int batch(int paste, int pounds) {
            refuseIf(no(paste, 6), -1);
            refuseIf(pounds < 1, -4);
            refuseIf(pounds > 1000 || batches.size() == 20, -6);
            Batch batch = new Batch();
            batch.paste = paste;
            batch.pounds = pounds;
            batch.day = day;
            batches.add(batch);
            return batches.size() - 1;
        }

        private int piece(int b, int kind, int pounds, int size) {
            refuseIf(no(b, batches.size()) || no(kind, 10), -1);
            Batch batch = batches.get(b);
            refuseIf(day < batch.day + pastes[batch.paste][0], -3);
            refuseIf(pounds < 1 || size < 10, -4);
            refuseIf(pounds > 40 || pounds > batch.pounds || size > 900 || pieces.size() == 80, -6);
            batch.pounds -= pounds;
            Piece piece = new Piece();
            piece.number = pieces.size();
            piece.paste = batch.paste;
            piece.kind = kind;
            piece.size = size;
            pieces.add(piece);
            return piece.number;
        }

        private int place(int p, int what, int v) {
            refuseIf(no(p, 12), -1);
            refuseIf(no(what, 2), -2);
            refuseIf(v < 1 - what, -4);
            refuseIf(v > (what == 0 ? 40 : 200), -6);
            int before = places[p][what];
            places[p][what] = v;
            return before;
        }

        private void pass(int n) {
            for (Debt debt : debts) {
                debt.sum = grown(debt, n);
            }
            day += n;
        }

        private long grown(Debt debt, int n) {
            long sum = debt.sum;
            for (int d = day + 1; d <= day + n; d++) {
                if ((d - debt.made) % 30 == 0) {
                    sum = Math.min(2000000000L, sum + sum * debt.rate / 1000);
                }
            }
            return sum;
        }

        private List<int[]> heats() {
            List<int[]> all = new ArrayList<>();
            int[] now = new int[12];
            all.add(now);
            for (int wood : hours) {
                int[] first = new int[12];
                int[] then = new int[12];
                for (int p = 0; p < 12; p++) {
                    first[p] = now[p] + places[p][0] * wood - now[p] * places[p][1] / 1000;
                }
                for (int p = 0; p < 12; p++) {
                    int sum = 0;
                    for (int q = 0; q < 12; q++) {
                        sum += Math.abs(p - q) == 1 ? first[q] - first[p] : 0;
                    }
                    then[p] = first[p] + (sum < 0 ? -(-sum / 10) : sum / 10);
                }
                all.add(then);
                now = then;
            }
            return all;
        }

        private int peak(int p) {
            int peak = 0;
            for (int[] heats : heats()) {
                peak = Math.max(peak, heats[p]);
            }
            return peak;
        }

        private Piece at(int p) {
            for (Piece piece : pieces) {
                if (piece.place == p) {
                    return piece;
                }
            }
            return null;
        }

        private boolean fires(Piece piece, int peak) {
            return pastes[piece.paste][2] <= peak && peak <= pastes[piece.paste][3];
        }

        private int fire() {
            refuseIf(hours.isEmpty(), -3);
            refuseIf(day + 2 > 4000, -6);
            int fired = 0;
            for (Piece piece : pieces) {
                if (piece.place != -9) {
                    piece.peak = peak(piece.place);
                    piece.lowThen = pastes[piece.paste][2];
                    piece.highThen = pastes[piece.paste][3];
                    piece.place = -9;
                    if (fires(piece, piece.peak)) {
                        piece.state = 1;
                        piece.size -= piece.size * pastes[piece.paste][1] / 1000;
                        fired++;
                    } else {
                        piece.state = 3;
                    }
                }
            }
            for (int wood : hours) {
                burned += wood;
            }
            hours.clear();
            pass(2);
            return fired;
        }

        private int want(int p, int worth) {
            refuseIf(no(p, pieces.size()), -1);
            Piece piece = pieces.get(p);
            refuseIf(piece.state != 0 || piece.place != -9 || piece.told, -3);
            refuseIf(worth < 1, -4);
            refuseIf(worth > 999 || told.size() == 8, -6);
            piece.told = true;
            piece.worth = worth;
            told.add(piece);
            return told.size();
        }

        /** The places, then the worth: by the greatest worth of the pieces from i on with places in use. */
        private int[] bestWay() {
            int n = told.size();
            int[] peaks = new int[12];
            int taken = 0;
            for (int p = 0; p < 12; p++) {
                peaks[p] = peak(p);
                taken |= at(p) != null ? 1 << p : 0;
            }
            int[][] most = new int[n + 1][4096];
            for (int i = n - 1; i >= 0; i--) {
                for (int used = 0; used < 4096; used++) {
                    most[i][used] = most[i + 1][used];
                    for (int p = 0; p < 12; p++) {
                        if ((used >> p & 1) == 0 && fires(told.get(i), peaks[p])) {
                            most[i][used] = Math.max(most[i][used],
                                    told.get(i).worth + most[i + 1][used | 1 << p]);
                        }
                    }
                }
            }
            int[] way = new int[n + 1];
            way[n] = most[0][taken];
            for (int i = 0; i < n; i++) {
                way[i] = -9;
                for (int p = 0; p < 12 && way[i] == -9; p++) {
                    if ((taken >> p & 1) == 0 && fires(told.get(i), peaks[p])
                            && told.get(i).worth + most[i + 1][taken | 1 << p] == most[i][taken]) {
                        way[i] = p;
                    }
                }
                taken |= way[i] == -9 ? 0 : 1 << way[i];
            }
            return way;
        }

        private int lay() {
            int[] way = bestWay();
            int laid = 0;
            for (int i = 0; i < told.size(); i++) {
                told.get(i).place = way[i];
                told.get(i).told = false;
                laid += way[i] == -9 ? 0 : 1;
            }
            told.clear();
            return laid;
        }

        /** Tries all sets of heats: of 0 .. 9 if no colour goes above, else of all FROMs. */
        private int[] fires(int set) {
            refuseIf((set & ~4095) != 0, -1);
            TreeSet<Integer> heats = new TreeSet<>();
            boolean low = true;
            for (int[] colour : colours) {
                low &= colour[1] <= 9;
            }
            for (int c = 0; c < 12; c++) {
                heats.add(low ? Math.min(c, 9) : colours[c][0]);
            }
            List<Integer> falling = new ArrayList<>(heats.descendingSet());
            int[] best = null;
            for (int chosen = 0; chosen < 1 << falling.size(); chosen++) {
                if (best != null && Integer.bitCount(chosen) > best.length || !fixes(set, chosen, falling)) {
                    continue;
                }
                int[] way = new int[Integer.bitCount(chosen)];
                int at = 0;
                for (int h = 0; h < falling.size(); h++) {
                    if ((chosen >> h & 1) != 0) {
                        way[at++] = falling.get(h);
                    }
                }
                if (best == null || way.length < best.length || Arrays.compare(way, best) < 0) {
                    best = way;
                }
            }
            return best;
        }

        private boolean fixes(int set, int chosen, List<Integer> heats) {
            for (int c = 0; c < 12; c++) {
                boolean fixed = (set >> c & 1) == 0;
                for (int h = 0; h < heats.size() && !fixed; h++) {
                    fixed = (chosen >> h & 1) != 0
                            && colours[c][0] <= heats.get(h) && heats.get(h) <= colours[c][1];
                }
                if (!fixed) {
                    return false;
                }
            }
            return true;
        }

        /** The painters of the jobs, then the days: by counting through all ways in their order. */
        private int[] sharing() {
            int n = loads.size();
            int ways = 1;
            for (int j = 0; j < n; j++) {
                ways *= 3;
            }
            int[] best = null;
            for (int way = 0; way < ways; way++) {
                int[] sharing = new int[n + 1];
                int[] sums = new int[3];
                int rest = way;
                for (int j = n - 1; j >= 0; j--) {
                    int p = rest % 3;
                    rest /= 3;
                    sharing[j] = p;
                    sums[p] += loads.get(j) / skills[p] + (loads.get(j) % skills[p] == 0 ? 0 : 1);
                }
                sharing[n] = Math.max(sums[0], Math.max(sums[1], sums[2]));
                if (best == null || sharing[n] < best[n]) {
                    best = sharing;
                }
            }
            return best;
        }

        private static int white(Piece piece) {
            int middle = (piece.lowThen + piece.highThen) / 2;
            return Math.max(0, 100 - Math.abs(piece.peak - middle) / 5);
        }

        private int lacking(List<Piece> chosen) {
            int sum = 0;
            for (Piece piece : chosen) {
                sum += 100 - white(piece);
            }
            return sum;
        }

        /** By all sets of n if they are few, else by the greatest white. */
        private List<Piece> matched(int kind, int n, int t) {
            List<Piece> all = new ArrayList<>();
            for (Piece piece : pieces) {
                if (piece.kind == kind && (piece.state == 1 || piece.state == 2)) {
                    all.add(piece);
                }
            }
            return all.size() <= 12 ? matchedOfAll(all, n, t) : matchedByGreatest(all, n, t);
        }

        private List<Piece> matchedOfAll(List<Piece> all, int n, int t) {
            List<Piece> best = null;
            int bestSum = 0;
            int bestGreatest = 0;
            for (int set = 0; set < 1 << all.size(); set++) {
                if (Integer.bitCount(set) != n) {
                    continue;
                }
                List<Piece> chosen = new ArrayList<>();
                int greatest = 0;
                int least = 100;
                for (int i = 0; i < all.size(); i++) {
                    if ((set >> i & 1) != 0) {
                        chosen.add(all.get(i));
                        greatest = Math.max(greatest, white(all.get(i)));
                        least = Math.min(least, white(all.get(i)));
                    }
                }
                int sum = lacking(chosen);
                boolean better = best == null || sum < bestSum
                        || sum == bestSum && greatest < bestGreatest
                        || sum == bestSum && greatest == bestGreatest && firstByNumbers(chosen, best);
                if (greatest - least <= t && better) {
                    best = chosen;
                    bestSum = sum;
                    bestGreatest = greatest;
                }
            }
            return best;
        }

        private static boolean firstByNumbers(List<Piece> a, List<Piece> b) {
            for (int i = 0; i < a.size(); i++) {
                if (a.get(i).number != b.get(i).number) {
                    return a.get(i).number < b.get(i).number;
                }
            }
            return false;
        }

        private List<Piece> matchedByGreatest(List<Piece> all, int n, int t) {
            for (int greatest = 100; greatest >= 0; greatest--) {
                List<Piece> chosen = new ArrayList<>();
                for (int w = greatest; w >= Math.max(0, greatest - t); w--) {
                    for (Piece piece : all) {
                        if (white(piece) == w && chosen.size() < n) {
                            chosen.add(piece);
                        }
                    }
                }
                if (chosen.size() == n) {
                    chosen.sort((a, b) -> a.number - b.number);
                    return chosen;
                }
            }
            return null;
        }

        private static BigInteger[] nextRow(BigInteger[] row, int w) {
            BigInteger[] next = new BigInteger[row.length + 1];
            for (int j = 0; j < next.length; j++) {
                BigInteger same = j < row.length ? row[j] : BigInteger.ZERO;
                BigInteger less = j > 0 ? row[j - 1] : BigInteger.ZERO;
                next[j] = same.multiply(BigInteger.valueOf(1024 - w)).add(less.multiply(BigInteger.valueOf(w)))
                        .divide(BigInteger.valueOf(1024));
            }
            return next;
        }

        private static int tail(BigInteger[] row, int k) {
            BigInteger sum = BigInteger.ZERO;
            for (int j = k; j < row.length; j++) {
                sum = sum.add(row[j]);
            }
            return sum.intValueExact();
        }

        private static int chance(int m, int k, int w) {
            BigInteger[] row = {BigInteger.valueOf(1048576)};
            for (int i = 0; i < m; i++) {
                row = nextRow(row, w);
            }
            return tail(row, k);
        }

        private static int make(int k, int w, int q) {
            refuseIf(k < 0 || w < 0 || q < 0, -4);
            refuseIf(k > 200 || w > 1024 || q > 1048576, -6);
            BigInteger[] row = {BigInteger.valueOf(1048576)};
            for (int m = 0; m <= 200; m++) {
                if (tail(row, k) >= q) {
                    return m;
                }
                row = nextRow(row, w);
            }
            return -9;
        }

        private int talk(int a, int b) {
            refuseIf(no(a, 16) || no(b, 16) || a == b, -1);
            for (int[] talk : talks) {
                if (talk[2] == day && talk[0] == Math.min(a, b) && talk[1] == Math.max(a, b)) {
                    return 0;
                }
            }
            refuseIf(talks.size() == 60, -6);
            talks.add(new int[] {Math.min(a, b), Math.max(a, b), day});
            return 1;
        }

        /** What each hand knows, then the first day on which one is joined. */
        private int[] known(int leftOut) {
            TreeSet<Integer> days = new TreeSet<>(sights.values());
            for (int[] talk : talks) {
                days.add(talk[2]);
            }
            int[] known = new int[17];
            known[16] = -9;
            for (int d : days) {
                for (Map.Entry<Integer, Integer> sight : sights.entrySet()) {
                    if (sight.getValue() == d) {
                        known[sight.getKey() / 2] |= 1 << sight.getKey() % 2;
                    }
                }
                int[] ahead = known.clone();
                for (int t = 0; t < talks.size(); t++) {
                    int[] talk = talks.get(t);
                    if (t != leftOut && talk[2] == d) {
                        known[talk[0]] |= ahead[talk[1]];
                        known[talk[1]] |= ahead[talk[0]];
                    }
                }
                for (int h = 0; h < 16; h++) {
                    if (known[h] == 3 && known[16] == -9) {
                        known[16] = d;
                    }
                }
            }
            return known;
        }

        private int leak() {
            if (known(-1)[16] == -9) {
                return -9;
            }
            for (int t = 0; t < talks.size(); t++) {
                if (known(t)[16] == -9) {
                    return t;
                }
            }
            return -9;
        }

        private int debt(int owed, int rate) {
            refuseIf(owed < 0 || rate < 0, -4);
            refuseIf(owed > 1000000 || rate > 500 || debts.size() == 6, -6);
            Debt debt = new Debt();
            debt.sum = owed;
            debt.rate = rate;
            debt.made = day;
            debts.add(debt);
            return debts.size() - 1;
        }

        private int pieceOf(int p, int what) {
            refuseIf(no(p, pieces.size()), -1);
            refuseIf(no(what, 7), -2);
            Piece piece = pieces.get(p);
            boolean white = piece.state == 1 || piece.state == 2 || piece.state == 4;
            int[] all = {piece.state, piece.kind, piece.size, piece.paste, piece.place, piece.peak,
                white ? white(piece) : -9};
            return all[what];
        }

        private int count(int what) {
            int[] states = new int[5];
            for (Piece piece : pieces) {
                states[piece.state]++;
            }
            int[] all = {day, batches.size(), pieces.size(), states[0], states[1], states[2], states[3],
                states[4], hours.size(), burned, talks.size(), refusals[1], refusals[2], refusals[3],
                refusals[4], refusals[5], refusals[6]};
            if (!no(what, all.length)) {
                return all[what];
            }
            long b = (long) what - 20;
            return b < 0 || b >= batches.size() ? -9 : batches.get((int) b).pounds;
        }
    }
}
