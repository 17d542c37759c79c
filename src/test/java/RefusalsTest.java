import java.util.ArrayList;
import java.util.Arrays;
import java.util.List;

/**
 * Each refusal that a promise tells, alone and with others that fit too, in the new, the begun and the
 * full works; and that behind a refused call, as behind a question, nothing has changed but how many
 * refusals there were. That is seen by twins: two objects with the same calls, one of them with one
 * call more; all that can be asked must be answered alike by both.
 */
public final class RefusalsTest {
    private static final int MIN = Integer.MIN_VALUE;
    private static final int MAX = Integer.MAX_VALUE;
    private static final int MOST_CALLS = 512;

    private static final String[] NAMES = {
        "paste", "batch", "days", "piece", "place", "wood", "clear", "peak", "heat", "stack", "unstack",
        "fire", "want", "best", "bestPlace", "lay", "colour", "fires", "fireHeat", "skill", "job", "least",
        "painter", "paint", "service", "matched", "sell", "chance", "make", "see", "talk", "knows",
        "joined", "leak", "debt", "pay", "owed", "pieceOf", "count",
    };

    private static int wrong = 0;

    /** Calls in their order, each with its name and numbers. */
    private static final class Script {
        private final String title;
        private final List<int[]> calls = new ArrayList<>();

        Script(String title) {
            this.title = title;
        }

        Script add(String name, int... numbers) {
            calls.add(call(name, numbers));
            return this;
        }
    }

    private static int[] call(String name, int... numbers) {
        int method = Arrays.asList(NAMES).indexOf(name);
        if (method < 0) {
            throw new IllegalArgumentException(name);
        }
        int[] call = new int[numbers.length + 1];
        call[0] = method;
        System.arraycopy(numbers, 0, call, 1, numbers.length);
        return call;
    }

    private static String text(int[] c) {
        String numbers = Arrays.toString(Arrays.copyOfRange(c, 1, c.length));
        return NAMES[c[0]] + "(" + numbers.substring(1, numbers.length() - 1) + ")";
    }

    private static int answer(PorcelainWorks x, int[] c) {
        switch (NAMES[c[0]]) {
            case "paste": return x.paste(c[1], c[2], c[3]);
            case "batch": return x.batch(c[1], c[2]);
            case "days": return x.days(c[1]);
            case "piece": return x.piece(c[1], c[2], c[3], c[4]);
            case "place": return x.place(c[1], c[2], c[3]);
            case "wood": return x.wood(c[1]);
            case "clear": return x.clear();
            case "peak": return x.peak(c[1]);
            case "heat": return x.heat(c[1], c[2]);
            case "stack": return x.stack(c[1], c[2]);
            case "unstack": return x.unstack(c[1]);
            case "fire": return x.fire();
            case "want": return x.want(c[1], c[2]);
            case "best": return x.best();
            case "bestPlace": return x.bestPlace(c[1]);
            case "lay": return x.lay();
            case "colour": return x.colour(c[1], c[2], c[3]);
            case "fires": return x.fires(c[1]);
            case "fireHeat": return x.fireHeat(c[1], c[2]);
            case "skill": return x.skill(c[1], c[2]);
            default: return laterAnswer(x, c);
        }
    }

    private static int laterAnswer(PorcelainWorks x, int[] c) {
        switch (NAMES[c[0]]) {
            case "job": return x.job(c[1]);
            case "least": return x.least();
            case "painter": return x.painter(c[1]);
            case "paint": return x.paint(c[1]);
            case "service": return x.service(c[1], c[2], c[3]);
            case "matched": return x.matched(c[1], c[2], c[3], c[4]);
            case "sell": return x.sell(c[1], c[2], c[3]);
            case "chance": return x.chance(c[1], c[2], c[3]);
            case "make": return x.make(c[1], c[2], c[3]);
            case "see": return x.see(c[1], c[2]);
            case "talk": return x.talk(c[1], c[2]);
            case "knows": return x.knows(c[1]);
            case "joined": return x.joined();
            case "leak": return x.leak();
            case "debt": return x.debt(c[1], c[2]);
            case "pay": return x.pay(c[1], c[2]);
            case "owed": return x.owed(c[1], c[2]);
            case "pieceOf": return x.pieceOf(c[1], c[2]);
            default: return x.count(c[1]);
        }
    }

    /** Plays what must be taken: a refusal while a state is built is a fault of this test. */
    private static PorcelainWorks play(Script state) {
        PorcelainWorks x = new PorcelainWorks();
        for (int[] c : state.calls) {
            int got = answer(x, c);
            if (got < 0) {
                fault(state.title + " is built by " + text(c) + ", which answered " + got);
            }
        }
        return x;
    }

    private static void fault(String what) {
        wrong++;
        if (wrong <= 40) {
            System.out.println(what);
        }
    }

    // ---- the states

    private static final Script NEW = new Script("the new works");
    private static final Script BEGUN = begun();
    private static final Script FULL = full();

    /**
     * Pieces: 0 SOLD, 1 PAINTED, 2 FIRED, 3 BROKEN (of kind 1), 4 RAW, 5 STACKED at 11, 6 told, 7 RAW.
     * Batch 0 has 993 pounds, batch 1 is not ripe, batch 2 has none left. It is day 2.
     */
    private static Script begun() {
        Script s = new Script("the begun works");
        s.add("paste", 0, 0, 0).add("paste", 0, 2, 0).add("paste", 0, 3, 400);
        s.add("batch", 0, 1000).add("batch", 1, 100).add("batch", 0, 5);
        for (int i = 0; i < 7; i++) {
            s.add("piece", 0, i < 4 ? 1 : 2, 1, 100);
        }
        s.add("piece", 2, 3, 5, 900).add("place", 3, 0, 40);
        for (int i = 0; i < 4; i++) {
            s.add("stack", i, i);
        }
        // 200 at 0 and 1, 260 at 2, 680 at 3.
        s.add("wood", 20).add("fire").add("sell", 1, 1, 0).add("paint", 1);
        s.add("stack", 5, 11).add("want", 6, 10).add("wood", 10).add("wood", 0);
        s.add("colour", 0, 100, 300).add("colour", 1, 200, 400);
        s.add("skill", 0, 2).add("job", 7).add("job", 5);
        s.add("see", 0, 0).add("see", 1, 1).add("talk", 0, 2);
        s.add("debt", 1000, 100).add("debt", 5, 0);
        return s;
    }

    /**
     * Day 4000, 20 batches (19 is not ripe, 1 has none left), 80 pieces (0 and 1 SOLD, 2 and 3 PAINTED,
     * 4 .. 11 FIRED, 12 .. 23 STACKED, 24 .. 31 told, others RAW), 48 hours, 8 jobs, 60 talks, of which
     * 0 and 15 had one on this day, 6 debts.
     */
    private static Script full() {
        Script s = new Script("the full works");
        s.add("paste", 0, 0, 0).add("paste", 0, 2, 0).add("paste", 0, 3, 2000);
        for (int b = 0; b < 19; b++) {
            s.add("batch", 0, b == 1 ? 1 : 1000);
        }
        s.add("piece", 1, 0, 1, 10);
        for (int i = 1; i < 80; i++) {
            s.add("piece", 0, 0, 1, 10 + i);
        }
        for (int p = 0; p < 12; p++) {
            s.add("stack", p, p);
        }
        s.add("wood", 50).add("fire").add("sell", 0, 2, 0).add("paint", 2).add("paint", 3);
        for (int p = 0; p < 12; p++) {
            s.add("stack", 12 + p, p);
        }
        for (int i = 0; i < 8; i++) {
            s.add("want", 24 + i, 100 + i).add("job", 10 + 7 * i);
        }
        for (int t = 0; t < 59; t++) {
            s.add("talk", t % 12, t % 12 + 1 + t / 12 % 3);
            if (t % 12 == 11) {
                s.add("days", 3);
            }
        }
        for (int d = 0; d < 5; d++) {
            s.add("debt", 1000 * d, 10 * d);
        }
        s.add("days", 3970).add("batch", 1, 7).add("debt", 1000000, 500).add("days", 16);
        s.add("talk", 15, 0).add("see", 0, 0);
        for (int h = 0; h < 48; h++) {
            s.add("wood", h % 2 == 0 ? 1 : 0);
        }
        return s;
    }

    /** The full works are as full as they are said to be. */
    private static void stateOfFull() {
        int[] want = {4000, 20, 80, 68, 8, 2, 0, 2, 48, 50, 60, 0, 0, 0, 0, 0, 0};
        PorcelainWorks x = play(FULL);
        for (int what = 0; what < want.length; what++) {
            if (x.count(what) != want[what]) {
                fault("the full works: count(" + what + ") answered " + x.count(what) + ", due is " + want[what]);
            }
        }
    }

    // ---- what can be asked

    private static final List<Script> PAGES = pages();

    private static List<Script> pages() {
        List<Script> pages = new ArrayList<>();
        for (int first = 0; first < 7; first += 2) {
            Script pieces = new Script("pieces");
            for (int i = 0; i < 80; i++) {
                for (int what = first; what < first + 2 && what < 7; what++) {
                    pieces.add("pieceOf", i, what);
                }
            }
            pages.add(pieces);
        }
        pages.add(countsAndTraits());
        pages.add(heats());
        pages.add(crafts());
        pages.add(house());
        pages.add(goingOn());
        pages.add(roomMade());
        return pages;
    }

    private static Script countsAndTraits() {
        Script s = new Script("counts and traits");
        for (int what = 0; what <= 10; what++) {
            s.add("count", what);
        }
        for (int b = 0; b < 20; b++) {
            s.add("count", 20 + b);
        }
        for (int p = 0; p < 6; p++) {
            for (int what = 0; what < 4; what++) {
                s.add("paste", p, what, 1);
            }
        }
        for (int p = 0; p < 12; p++) {
            s.add("place", p, 0, 1).add("place", p, 1, 1);
        }
        for (int p = 0; p < 3; p++) {
            s.add("skill", p, 1);
        }
        for (int p = 0; p < 12; p++) {
            s.add("unstack", p);
        }
        return s;
    }

    private static Script heats() {
        Script s = new Script("heats");
        for (int p = 0; p < 12; p++) {
            s.add("peak", p).add("heat", p, 0).add("heat", p, 1).add("heat", p, 2);
            s.add("heat", p, 3).add("heat", p, 47).add("heat", p, 48);
        }
        s.add("best");
        for (int i = 0; i <= 8; i++) {
            s.add("bestPlace", i);
        }
        s.add("clear").add("clear").add("wood", 10).add("best").add("bestPlace", 0).add("peak", 3);
        return s;
    }

    private static Script crafts() {
        Script s = new Script("crafts");
        for (int c = 0; c < 12; c++) {
            s.add("fireHeat", 1 << c, 0);
        }
        s.add("fires", 4095).add("fireHeat", 4095, 0).add("fireHeat", 4095, 1).add("fireHeat", 3, 0);
        s.add("least");
        for (int j = 0; j <= 8; j++) {
            s.add("painter", j);
        }
        for (int kind = 0; kind < 10; kind++) {
            s.add("service", kind, 1, 0).add("service", kind, 2, 100).add("service", kind, 8, 0);
            s.add("matched", kind, 1, 0, 0).add("matched", kind, 2, 100, 0).add("matched", kind, 2, 100, 1);
        }
        s.add("chance", 10, 8, 900).add("chance", 200, 100, 512).add("make", 8, 900, 1000000);
        return s;
    }

    private static Script house() {
        Script s = new Script("house");
        for (int h = 0; h < 16; h++) {
            s.add("knows", h);
        }
        s.add("joined").add("leak");
        for (int d = 0; d < 6; d++) {
            s.add("owed", d, 0).add("owed", d, 29).add("owed", d, 30).add("owed", d, 4000);
        }
        for (int a = 0; a < 15; a++) {
            s.add("talk", a, a + 1);
        }
        for (int h = 0; h < 16; h++) {
            s.add("see", h, 0).add("see", h, 1);
        }
        s.add("count", 10).add("joined").add("leak");
        for (int d = 0; d < 6; d++) {
            s.add("pay", d, 1);
        }
        return s;
    }

    private static Script goingOn() {
        Script s = new Script("going on");
        s.add("lay").add("fire").add("count", 0).add("count", 9).add("batch", 3, 9).add("batch", 3, 9);
        for (int b = 0; b < 20; b++) {
            s.add("piece", b, 1, 1, 50);
        }
        s.add("days", 29).add("wood", 40).add("fire").add("job", 3).add("least").add("debt", 9, 9);
        for (int i = 0; i < 80; i++) {
            s.add("paint", i);
        }
        s.add("sell", 0, 2, 100).add("sell", 1, 1, 100).add("sell", 2, 1, 100);
        for (int state = 0; state < 5; state++) {
            s.add("count", 3 + state);
        }
        return s;
    }

    /** What is told is laid, taken out or cleared, so that the full works have room again. */
    private static Script roomMade() {
        Script s = new Script("room made");
        s.add("unstack", 4).add("unstack", 5).add("lay").add("unstack", 4).add("unstack", 5);
        for (int i = 0; i < 80; i++) {
            s.add("want", i, 3);
        }
        s.add("best").add("bestPlace", 0).add("clear").add("wood", 30).add("best").add("lay").add("fire");
        return s;
    }

    // ---- one call more

    private static List<Integer> askAll(Script state, int[] more, Script page) {
        PorcelainWorks x = play(state);
        if (more != null) {
            answer(x, more);
        }
        if (state.calls.size() + 1 + page.calls.size() > MOST_CALLS) {
            fault(state.title + " and the page of " + page.title + " are too many calls");
        }
        List<Integer> answers = new ArrayList<>();
        for (int[] c : page.calls) {
            answers.add(answer(x, c));
        }
        return answers;
    }

    /** The call answers that, counts as one refusal if it is one, and changes nothing else. */
    private static void nothing(Script state, int want, String name, int... numbers) {
        int[] c = call(name, numbers);
        String title = state.title + ", " + text(c);
        PorcelainWorks x = play(state);
        PorcelainWorks twin = play(state);
        int got = answer(x, c);
        if (got != want) {
            fault(title + " answered " + got + ", due is " + want);
        }
        for (int r = 1; r <= 6; r++) {
            int more = x.count(10 + r) - twin.count(10 + r);
            if (more != (want == -r ? 1 : 0)) {
                fault(title + ": there are " + more + " refusals -" + r + " more");
            }
        }
        for (Script page : PAGES) {
            List<Integer> with = askAll(state, c, page);
            List<Integer> without = askAll(state, null, page);
            for (int i = 0; i < with.size(); i++) {
                if (!with.get(i).equals(without.get(i))) {
                    fault(title + ": behind it " + text(page.calls.get(i)) + " answered " + with.get(i)
                            + ", without it " + without.get(i));
                    break;
                }
            }
        }
    }

    // ---- the new works: no batch, no piece, no hours, nothing told, no job, no talk, no debt

    private static void newWorks() {
        nothing(NEW, -1, "piece", 0, 0, 1, 10);
        nothing(NEW, -1, "piece", 0, 10, 0, 0);
        nothing(NEW, 0, "clear");
        nothing(NEW, 0, "peak", 0);
        nothing(NEW, 0, "heat", 11, 0);
        nothing(NEW, -6, "heat", 0, 1);
        nothing(NEW, -1, "stack", 0, 0);
        nothing(NEW, -3, "unstack", 0);
        nothing(NEW, -3, "unstack", 11);
        nothing(NEW, -3, "fire");
        nothing(NEW, -1, "want", 0, 1);
        nothing(NEW, 0, "best");
        nothing(NEW, -1, "bestPlace", 0);
        nothing(NEW, 0, "lay");
        nothing(NEW, 0, "fires", 0);
        nothing(NEW, 1, "fires", 4095);
        nothing(NEW, -1, "fireHeat", 0, 0);
        nothing(NEW, 0, "fireHeat", 4095, 0);
        nothing(NEW, -1, "fireHeat", 4095, 1);
        nothing(NEW, 0, "least");
        nothing(NEW, -9, "painter", 0);
        nothing(NEW, -1, "paint", 0);
        nothing(NEW, -9, "service", 0, 1, 100);
        nothing(NEW, -9, "matched", 0, 1, 100, 0);
        nothing(NEW, -3, "sell", 0, 1, 100);
        nothing(NEW, 0, "knows", 0);
        nothing(NEW, -9, "joined");
        nothing(NEW, -9, "leak");
        nothing(NEW, -1, "pay", 0, 1);
        nothing(NEW, -1, "owed", 0, 0);
        nothing(NEW, -1, "pieceOf", 0, 0);
        nothing(NEW, -9, "count", 20);
        for (int what = 0; what <= 16; what++) {
            nothing(NEW, 0, "count", what);
        }
    }

    // ---- the begun works: each refusal, and of two that fit the one that is told first

    private static void begunClay() {
        nothing(BEGUN, -1, "paste", 6, 0, 0);
        nothing(BEGUN, -1, "paste", -1, 4, 0);
        nothing(BEGUN, -1, "paste", 6, 0, -1);
        nothing(BEGUN, -1, "paste", 6, 0, 201);
        nothing(BEGUN, -2, "paste", 0, 4, 0);
        nothing(BEGUN, -2, "paste", 0, 4, -1);
        nothing(BEGUN, -2, "paste", 0, -1, 2001);
        nothing(BEGUN, -4, "paste", 0, 0, -1);
        nothing(BEGUN, -4, "paste", 0, 3, MIN);
        nothing(BEGUN, -6, "paste", 0, 0, 201);
        nothing(BEGUN, -6, "paste", 0, 1, 301);
        nothing(BEGUN, -6, "paste", 0, 2, 2001);
        nothing(BEGUN, -6, "paste", 0, 3, 2001);

        nothing(BEGUN, -1, "batch", 6, 1);
        nothing(BEGUN, -1, "batch", -1, 0);
        nothing(BEGUN, -1, "batch", 6, 1001);
        nothing(BEGUN, -4, "batch", 0, 0);
        nothing(BEGUN, -6, "batch", 0, 1001);

        nothing(BEGUN, -4, "days", 0);
        nothing(BEGUN, -4, "days", MIN);
        nothing(BEGUN, -6, "days", 3999);
        nothing(BEGUN, -6, "days", MAX);
    }

    private static void begunPieces() {
        nothing(BEGUN, -1, "piece", 3, 0, 1, 10);
        nothing(BEGUN, -1, "piece", -1, 0, 1, 10);
        nothing(BEGUN, -1, "piece", 0, 10, 1, 10);
        nothing(BEGUN, -1, "piece", 1, 10, 1, 10);
        nothing(BEGUN, -1, "piece", 3, 0, 0, 9);
        nothing(BEGUN, -1, "piece", 0, -1, 41, 901);
        nothing(BEGUN, -3, "piece", 1, 0, 1, 10);
        nothing(BEGUN, -3, "piece", 1, 0, 0, 10);
        nothing(BEGUN, -3, "piece", 1, 0, 1, 9);
        nothing(BEGUN, -3, "piece", 1, 0, 41, 10);
        nothing(BEGUN, -3, "piece", 1, 0, 1, 901);
        nothing(BEGUN, -4, "piece", 0, 0, 0, 10);
        nothing(BEGUN, -4, "piece", 0, 0, 1, 9);
        nothing(BEGUN, -4, "piece", 0, 0, 0, 901);
        nothing(BEGUN, -4, "piece", 0, 0, 41, 9);
        nothing(BEGUN, -4, "piece", 2, 0, 0, 10);
        nothing(BEGUN, -4, "piece", 2, 0, 1, 9);
        nothing(BEGUN, -6, "piece", 0, 0, 41, 10);
        nothing(BEGUN, -6, "piece", 0, 0, 1, 901);
        nothing(BEGUN, -6, "piece", 2, 0, 1, 10);

        nothing(BEGUN, -1, "paint", 8);
        nothing(BEGUN, -3, "paint", 0);
        nothing(BEGUN, -3, "paint", 1);
        nothing(BEGUN, -3, "paint", 3);
        nothing(BEGUN, -3, "paint", 4);
        nothing(BEGUN, -3, "paint", 5);
        nothing(BEGUN, -3, "paint", 6);

        nothing(BEGUN, -1, "pieceOf", 8, 0);
        nothing(BEGUN, -1, "pieceOf", 8, 7);
        nothing(BEGUN, -1, "pieceOf", -1, -1);
        nothing(BEGUN, -2, "pieceOf", 7, 7);
        nothing(BEGUN, -2, "pieceOf", 0, -1);
        nothing(BEGUN, 100, "pieceOf", 1, 6);
        nothing(BEGUN, -9, "pieceOf", 3, 6);
        nothing(BEGUN, 680, "pieceOf", 3, 5);
        nothing(BEGUN, -9, "pieceOf", 4, 5);
        nothing(BEGUN, 11, "pieceOf", 5, 4);
    }

    private static void begunKiln() {
        nothing(BEGUN, -1, "place", 12, 0, 1);
        nothing(BEGUN, -1, "place", -1, 2, 1);
        nothing(BEGUN, -1, "place", 12, 0, 0);
        nothing(BEGUN, -1, "place", 12, 1, 201);
        nothing(BEGUN, -2, "place", 0, 2, 1);
        nothing(BEGUN, -2, "place", 0, -1, 0);
        nothing(BEGUN, -2, "place", 0, 2, 201);
        nothing(BEGUN, -4, "place", 0, 0, 0);
        nothing(BEGUN, -4, "place", 0, 1, -1);
        nothing(BEGUN, -6, "place", 0, 0, 41);
        nothing(BEGUN, -6, "place", 0, 1, 201);

        nothing(BEGUN, -4, "wood", -1);
        nothing(BEGUN, -6, "wood", 51);

        nothing(BEGUN, -1, "peak", 12);
        nothing(BEGUN, 340, "peak", 3);
        nothing(BEGUN, -1, "heat", 12, 0);
        nothing(BEGUN, -1, "heat", -1, -1);
        nothing(BEGUN, -1, "heat", 12, 3);
        nothing(BEGUN, -4, "heat", 0, -1);
        nothing(BEGUN, -6, "heat", 0, 3);
        nothing(BEGUN, 340, "heat", 3, 1);

        nothing(BEGUN, -1, "stack", 8, 0);
        nothing(BEGUN, -1, "stack", 8, 11);
        nothing(BEGUN, -1, "stack", 4, 12);
        nothing(BEGUN, -1, "stack", 2, 12);
        nothing(BEGUN, -3, "stack", 0, 0);
        nothing(BEGUN, -3, "stack", 1, 0);
        nothing(BEGUN, -3, "stack", 2, 0);
        nothing(BEGUN, -3, "stack", 3, 0);
        nothing(BEGUN, -3, "stack", 5, 0);
        nothing(BEGUN, -3, "stack", 5, 11);
        nothing(BEGUN, -3, "stack", 6, 0);
        nothing(BEGUN, -3, "stack", 4, 11);

        nothing(BEGUN, -1, "unstack", 12);
        nothing(BEGUN, -1, "unstack", -1);
        nothing(BEGUN, -3, "unstack", 0);
        nothing(BEGUN, -3, "unstack", 10);
    }

    private static void begunStacking() {
        nothing(BEGUN, -1, "want", 8, 1);
        nothing(BEGUN, -1, "want", 8, 0);
        nothing(BEGUN, -1, "want", -1, 1000);
        nothing(BEGUN, -3, "want", 0, 1);
        nothing(BEGUN, -3, "want", 1, 1);
        nothing(BEGUN, -3, "want", 2, 1);
        nothing(BEGUN, -3, "want", 3, 1);
        nothing(BEGUN, -3, "want", 5, 1);
        nothing(BEGUN, -3, "want", 6, 1);
        nothing(BEGUN, -3, "want", 6, 0);
        nothing(BEGUN, -3, "want", 5, 1000);
        nothing(BEGUN, -4, "want", 4, 0);
        nothing(BEGUN, -6, "want", 4, 1000);
        nothing(BEGUN, 10, "best");
        nothing(BEGUN, 0, "bestPlace", 0);
        nothing(BEGUN, -1, "bestPlace", 1);
        nothing(BEGUN, -1, "bestPlace", -1);
    }

    private static void begunCrafts() {
        nothing(BEGUN, -1, "colour", 12, 1, 2);
        nothing(BEGUN, -1, "colour", 12, -1, 2);
        nothing(BEGUN, -1, "colour", -1, 0, 1001);
        nothing(BEGUN, -4, "colour", 0, -1, 2);
        nothing(BEGUN, -4, "colour", 0, 3, 2);
        nothing(BEGUN, -4, "colour", 0, -1, 1001);
        nothing(BEGUN, -4, "colour", 0, 1002, 1001);
        nothing(BEGUN, -4, "colour", 0, 1001, 1000);
        nothing(BEGUN, -6, "colour", 0, 1, 1001);
        nothing(BEGUN, -6, "colour", 0, 1001, 1001);
        nothing(BEGUN, -1, "fires", 4096);
        nothing(BEGUN, -1, "fires", 4097);
        nothing(BEGUN, -1, "fires", MIN);
        nothing(BEGUN, 1, "fires", 3);
        nothing(BEGUN, -1, "fireHeat", 4099, 0);
        nothing(BEGUN, -1, "fireHeat", 4096, -1);
        nothing(BEGUN, -1, "fireHeat", 3, 1);
        nothing(BEGUN, -1, "fireHeat", 3, -1);
        nothing(BEGUN, 200, "fireHeat", 3, 0);

        nothing(BEGUN, -1, "skill", 3, 1);
        nothing(BEGUN, -1, "skill", -1, 0);
        nothing(BEGUN, -1, "skill", 3, 21);
        nothing(BEGUN, -4, "skill", 0, 0);
        nothing(BEGUN, -6, "skill", 0, 21);
        nothing(BEGUN, -4, "job", 0);
        nothing(BEGUN, -6, "job", 501);
        nothing(BEGUN, 5, "least");
        nothing(BEGUN, 0, "painter", 0);
        nothing(BEGUN, -9, "painter", 2);
        nothing(BEGUN, -9, "painter", -1);
    }

    private static void begunServices() {
        for (String name : new String[] {"service", "sell"}) {
            nothing(BEGUN, -1, name, 10, 1, 0);
            nothing(BEGUN, -1, name, -1, 0, 0);
            nothing(BEGUN, -1, name, 10, 1, 101);
            nothing(BEGUN, -4, name, 1, 0, 0);
            nothing(BEGUN, -4, name, 1, 1, -1);
            nothing(BEGUN, -4, name, 1, 0, 101);
            nothing(BEGUN, -4, name, 1, 13, -1);
            nothing(BEGUN, -4, name, 9, 0, 0);
            nothing(BEGUN, -6, name, 1, 13, 0);
            nothing(BEGUN, -6, name, 1, 1, 101);
            nothing(BEGUN, -6, name, 9, 13, 0);
            nothing(BEGUN, name.equals("sell") ? -3 : -9, name, 1, 2, 11);
            nothing(BEGUN, name.equals("sell") ? -3 : -9, name, 1, 3, 100);
            nothing(BEGUN, name.equals("sell") ? -3 : -9, name, 2, 1, 100);
        }
        nothing(BEGUN, 12, "service", 1, 2, 12);
        nothing(BEGUN, -1, "matched", 10, 1, 0, 0);
        nothing(BEGUN, -1, "matched", -1, 0, 0, -1);
        nothing(BEGUN, -1, "matched", 10, 13, 101, 0);
        nothing(BEGUN, -4, "matched", 1, 0, 0, 0);
        nothing(BEGUN, -4, "matched", 1, 1, -1, 5);
        nothing(BEGUN, -4, "matched", 1, 0, 101, 0);
        nothing(BEGUN, -4, "matched", 1, 13, -1, 0);
        nothing(BEGUN, -6, "matched", 1, 13, 0, 0);
        nothing(BEGUN, -6, "matched", 1, 1, 101, -1);
        nothing(BEGUN, -9, "matched", 1, 2, 11, 0);
        nothing(BEGUN, -9, "matched", 1, 2, 12, 2);
        nothing(BEGUN, -9, "matched", 1, 2, 12, -1);
        nothing(BEGUN, 2, "matched", 1, 2, 12, 1);

        nothing(BEGUN, -4, "chance", -1, 0, 0);
        nothing(BEGUN, -4, "chance", 0, -1, 1025);
        nothing(BEGUN, -4, "chance", 201, 0, -1);
        nothing(BEGUN, -6, "chance", 201, 0, 0);
        nothing(BEGUN, -6, "chance", 0, 201, 0);
        nothing(BEGUN, -6, "chance", 0, 0, 1025);
        nothing(BEGUN, 932165, "chance", 10, 8, 900);
        nothing(BEGUN, -4, "make", -1, 1025, 0);
        nothing(BEGUN, -4, "make", 0, -1, 1048577);
        nothing(BEGUN, -4, "make", 201, 0, -1);
        nothing(BEGUN, -6, "make", 201, 0, 0);
        nothing(BEGUN, -6, "make", 0, 1025, 0);
        nothing(BEGUN, -6, "make", 0, 0, 1048577);
        nothing(BEGUN, 11, "make", 8, 900, 1000000);
        nothing(BEGUN, -9, "make", 1, 0, 1);
    }

    private static void begunHouse() {
        nothing(BEGUN, -1, "see", 16, 0);
        nothing(BEGUN, -1, "see", -1, 2);
        nothing(BEGUN, -1, "see", 0, 2);
        nothing(BEGUN, -1, "see", 0, -1);
        nothing(BEGUN, 0, "see", 0, 0);
        nothing(BEGUN, -1, "talk", 16, 0);
        nothing(BEGUN, -1, "talk", 0, -1);
        nothing(BEGUN, -1, "talk", 0, 0);
        nothing(BEGUN, 0, "talk", 0, 2);
        nothing(BEGUN, 0, "talk", 2, 0);
        nothing(BEGUN, -1, "knows", 16);
        nothing(BEGUN, 1, "knows", 2);
        nothing(BEGUN, -9, "joined");
        nothing(BEGUN, -9, "leak");

        nothing(BEGUN, -4, "debt", -1, 0);
        nothing(BEGUN, -4, "debt", 0, -1);
        nothing(BEGUN, -4, "debt", -1, 501);
        nothing(BEGUN, -4, "debt", 1000001, -1);
        nothing(BEGUN, -6, "debt", 1000001, 0);
        nothing(BEGUN, -6, "debt", 0, 501);
        nothing(BEGUN, -1, "pay", 2, 1);
        nothing(BEGUN, -1, "pay", 2, 0);
        nothing(BEGUN, -1, "pay", -1, 1000001);
        nothing(BEGUN, -4, "pay", 0, 0);
        nothing(BEGUN, -6, "pay", 0, 1001);
        nothing(BEGUN, -6, "pay", 0, 1000001);
        nothing(BEGUN, -1, "owed", 2, 0);
        nothing(BEGUN, -1, "owed", 2, -1);
        nothing(BEGUN, -1, "owed", -1, 4001);
        nothing(BEGUN, -4, "owed", 0, -1);
        nothing(BEGUN, -6, "owed", 0, 4001);
        nothing(BEGUN, 1100, "owed", 0, 30);

        for (int what : new int[] {MIN, -1, 17, 18, 19, 23, 39, 40, MAX}) {
            nothing(BEGUN, -9, "count", what);
        }
        nothing(BEGUN, 993, "count", 20);
    }

    // ---- the full works: no room, and what is told ahead of that

    private static void fullWorks() {
        nothing(FULL, -6, "batch", 0, 1);
        nothing(FULL, -6, "batch", 0, 1001);
        nothing(FULL, -4, "batch", 0, 0);
        nothing(FULL, -1, "batch", 6, 1);

        nothing(FULL, -6, "days", 1);
        nothing(FULL, -6, "days", MAX);
        nothing(FULL, -4, "days", 0);

        nothing(FULL, -6, "piece", 0, 0, 1, 10);
        nothing(FULL, -6, "piece", 1, 0, 1, 10);
        nothing(FULL, -4, "piece", 0, 0, 0, 10);
        nothing(FULL, -4, "piece", 0, 0, 1, 9);
        nothing(FULL, -3, "piece", 19, 0, 1, 10);
        nothing(FULL, -1, "piece", 20, 0, 1, 10);
        nothing(FULL, -1, "piece", 0, 10, 1, 10);

        nothing(FULL, -6, "wood", 0);
        nothing(FULL, -6, "wood", 51);
        nothing(FULL, -4, "wood", -1);
        nothing(FULL, -6, "heat", 0, 49);
        nothing(FULL, -6, "fire");

        nothing(FULL, -3, "stack", 32, 0);
        nothing(FULL, -3, "stack", 12, 0);
        nothing(FULL, -1, "stack", 80, 0);
        nothing(FULL, -1, "stack", 32, 12);

        nothing(FULL, -6, "want", 32, 1);
        nothing(FULL, -6, "want", 32, 1000);
        nothing(FULL, -4, "want", 32, 0);
        nothing(FULL, -3, "want", 24, 1);
        nothing(FULL, -3, "want", 12, 1);
        nothing(FULL, -3, "want", 4, 1);
        nothing(FULL, -1, "want", 80, 1);
        nothing(FULL, 0, "best");
        nothing(FULL, -9, "bestPlace", 0);
        nothing(FULL, -9, "bestPlace", 7);
        nothing(FULL, -1, "bestPlace", 8);

        nothing(FULL, -6, "job", 1);
        nothing(FULL, -6, "job", 501);
        nothing(FULL, -4, "job", 0);
        nothing(FULL, -9, "painter", 8);

        nothing(FULL, -6, "talk", 0, 14);
        nothing(FULL, -1, "talk", 3, 3);
        nothing(FULL, -1, "talk", 16, 0);
        nothing(FULL, 0, "talk", 0, 15);
        nothing(FULL, 0, "talk", 15, 0);

        nothing(FULL, -6, "debt", 1, 1);
        nothing(FULL, -6, "debt", 1000001, 501);
        nothing(FULL, -4, "debt", -1, 1);
        nothing(FULL, -4, "debt", 1, -1);
        nothing(FULL, -1, "pay", 6, 1);
        nothing(FULL, -1, "owed", 6, 0);
        nothing(FULL, -6, "pay", 0, 1);

        nothing(FULL, -1, "paint", 80);
        nothing(FULL, -1, "pieceOf", 80, 0);
        nothing(FULL, -3, "sell", 0, 11, 0);
        nothing(FULL, -9, "service", 0, 11, 0);
        nothing(FULL, -9, "count", 40);
        nothing(FULL, 7, "count", 39);
    }

    /** On the last day without hours both refusals of fire fit. */
    private static void fireRefusals() {
        Script late = new Script("day 4000 without hours").add("days", 4000);
        nothing(late, -3, "fire");
        Script last = new Script("day 4000 with an hour").add("days", 4000).add("wood", 5);
        nothing(last, -6, "fire");
        Script before = new Script("day 3999 with an hour").add("days", 3999).add("wood", 5);
        nothing(before, -6, "fire");
    }

    /** A refusal is counted each time, and each kind on its own; none is ever -5. */
    private static void refusalsAddUp() {
        PorcelainWorks x = new PorcelainWorks();
        int[] want = new int[7];
        for (int round = 1; round <= 20; round++) {
            int[] got = {x.peak(12), x.place(0, 2, 0), x.fire(), x.wood(-1), x.wood(51)};
            for (int refusal : got) {
                want[-refusal]++;
            }
            for (int r = 1; r <= 6; r++) {
                if (x.count(10 + r) != want[r] || want[r] != (r == 5 ? 0 : round)) {
                    fault("round " + round + ": refusals -" + r + " are " + x.count(10 + r));
                }
            }
        }
    }

    public static void main(String[] args) {
        stateOfFull();
        newWorks();
        begunClay();
        begunPieces();
        begunKiln();
        begunStacking();
        begunCrafts();
        begunServices();
        begunHouse();
        fullWorks();
        fireRefusals();
        refusalsAddUp();
        System.out.println(wrong == 0 ? "all answers are as due" : wrong + " answers are not as due");
        if (wrong != 0) {
            System.exit(1);
        }
    }
}
