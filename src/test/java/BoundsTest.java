import java.util.function.Supplier;

/**
 * Each number that a call takes: the least and the greatest that are taken, the ones just outside, and
 * the ends of int. Every call is on an object of its own, so that none is in the way of another.
 */
public final class BoundsTest {
    private static final int MIN = Integer.MIN_VALUE;
    private static final int MAX = Integer.MAX_VALUE;

    private static int wrong = 0;
    private static int promise = 0;

    private interface Call {
        int of(PorcelainWorks x, int v);
    }

    private static void due(String call, int got, int want) {
        if (got != want) {
            wrong++;
            System.out.println("promise " + promise + ": " + call + " answered " + got + ", due is " + want);
        }
    }

    /** One call on a new object; a refusal is counted once, and nothing else is. */
    private static void one(String name, Supplier<PorcelainWorks> state, Call call, int v, int want) {
        PorcelainWorks x = state.get();
        int[] before = refusals(x);
        due(name + " " + v, call.of(x, v), want);
        int[] after = refusals(x);
        for (int r = 1; r <= 6; r++) {
            due(name + " " + v + ": refusals -" + r, after[r] - before[r], want == -r ? 1 : 0);
        }
    }

    private static int[] refusals(PorcelainWorks x) {
        int[] all = new int[7];
        for (int r = 1; r <= 6; r++) {
            all[r] = x.count(10 + r);
        }
        return all;
    }

    /** What is due at both ends of what is taken, and outside them. */
    private static final class Ends {
        private final String name;
        private final Supplier<PorcelainWorks> state;
        private final Call call;

        Ends(String name, Supplier<PorcelainWorks> state, Call call) {
            this.name = name;
            this.state = state;
            this.call = call;
        }

        Ends least(int v, int want, int below) {
            one(name, state, call, v - 1, below);
            one(name, state, call, v, want);
            one(name, state, call, MIN, below);
            return this;
        }

        Ends greatest(int v, int want, int above) {
            one(name, state, call, v, want);
            one(name, state, call, v + 1, above);
            one(name, state, call, MAX, above);
            return this;
        }
    }

    private static Ends ends(String name, Supplier<PorcelainWorks> state, Call call) {
        return new Ends(name, state, call);
    }

    private static PorcelainWorks empty() {
        return new PorcelainWorks();
    }

    /** Paste 0 is ripe at once and bears 0 .. 2000; of it there is a batch of 1000 pounds. */
    private static PorcelainWorks mixed() {
        PorcelainWorks x = new PorcelainWorks();
        x.paste(0, 0, 0);
        x.paste(0, 2, 0);
        x.paste(0, 3, 2000);
        x.batch(0, 1000);
        return x;
    }

    /** Three raw pieces, of kinds 0, 5 and 9. */
    private static PorcelainWorks shaped() {
        PorcelainWorks x = mixed();
        x.piece(0, 0, 1, 100);
        x.piece(0, 5, 1, 200);
        x.piece(0, 9, 1, 300);
        return x;
    }

    /** The three are stacked at places 0, 5 and 11; two hours are told. */
    private static PorcelainWorks stacked() {
        PorcelainWorks x = shaped();
        x.stack(0, 0);
        x.stack(1, 5);
        x.stack(2, 11);
        x.wood(50);
        x.wood(50);
        return x;
    }

    /** Two of the three are told for the best stacking; an hour is told. */
    private static PorcelainWorks told() {
        PorcelainWorks x = shaped();
        x.want(2, 5);
        x.want(1, 5);
        x.wood(1);
        return x;
    }

    /** The three came out of a PEAK of 990: WHITE is 100 less 10 by 5. */
    private static PorcelainWorks fired() {
        PorcelainWorks x = stacked();
        x.fire();
        return x;
    }

    /** 12 pieces of kind 0 with WHITE 98. */
    private static PorcelainWorks dozen() {
        PorcelainWorks x = mixed();
        for (int i = 0; i < 12; i++) {
            x.piece(0, 0, 1, 100);
            x.stack(i, i);
        }
        x.wood(50);
        x.wood(50);
        x.fire();
        return x;
    }

    private static void clay() {
        promise = 2;
        ends("paste p", BoundsTest::empty, (x, v) -> x.paste(v, 0, 7)).least(0, 30, -1).greatest(5, 30, -1);
        ends("paste what", BoundsTest::empty, (x, v) -> x.paste(3, v, 7)).least(0, 30, -2).greatest(3, 1400, -2);
        ends("RIPE", BoundsTest::empty, (x, v) -> x.paste(0, 0, v)).least(0, 30, -4).greatest(200, 30, -6);
        ends("SHRINK", BoundsTest::empty, (x, v) -> x.paste(5, 1, v)).least(0, 120, -4).greatest(300, 120, -6);
        ends("LOW", BoundsTest::empty, (x, v) -> x.paste(0, 2, v)).least(0, 1200, -4).greatest(2000, 1200, -6);
        ends("HIGH", BoundsTest::empty, (x, v) -> x.paste(5, 3, v)).least(0, 1400, -4).greatest(2000, 1400, -6);

        promise = 3;
        ends("batch paste", BoundsTest::mixed, (x, v) -> x.batch(v, 1)).least(0, 1, -1).greatest(5, 1, -1);
        ends("batch pounds", BoundsTest::mixed, (x, v) -> x.batch(5, v)).least(1, 1, -4).greatest(1000, 1, -6);

        promise = 4;
        ends("days from 0", BoundsTest::empty, (x, v) -> x.days(v)).least(1, 1, -4).greatest(4000, 4000, -6);
        Supplier<PorcelainWorks> late = () -> {
            PorcelainWorks x = new PorcelainWorks();
            x.days(3997);
            return x;
        };
        ends("days from 3997", late, (x, v) -> x.days(v)).least(1, 3998, -4).greatest(3, 4000, -6);
    }

    private static void pieces() {
        promise = 5;
        Supplier<PorcelainWorks> two = () -> {
            PorcelainWorks x = mixed();
            x.batch(0, 30);
            return x;
        };
        ends("piece batch", two, (x, v) -> x.piece(v, 0, 1, 10)).least(0, 0, -1).greatest(1, 0, -1);
        ends("piece kind", BoundsTest::mixed, (x, v) -> x.piece(0, v, 1, 10)).least(0, 0, -1).greatest(9, 0, -1);
        ends("piece pounds", BoundsTest::mixed, (x, v) -> x.piece(0, 0, v, 10)).least(1, 0, -4).greatest(40, 0, -6);
        ends("piece of 30 left", two, (x, v) -> x.piece(1, 0, v, 10)).least(1, 0, -4).greatest(30, 0, -6);
        ends("piece size", BoundsTest::mixed, (x, v) -> x.piece(0, 0, 1, v)).least(10, 0, -4).greatest(900, 0, -6);
        for (int pounds = 39; pounds <= 41; pounds++) {
            PorcelainWorks x = mixed();
            x.batch(0, pounds);
            due("40 of " + pounds, x.piece(1, 0, 40, 10), pounds < 40 ? -6 : 0);
            due("41 of " + pounds, x.piece(1, 0, 41, 10), -6);
            due("left of " + pounds, x.count(21), pounds < 40 ? pounds : pounds - 40);
        }

        promise = 25;
        ends("paint piece", BoundsTest::fired, (x, v) -> x.paint(v)).least(0, 1, -1).greatest(2, 1, -1);

        promise = 39;
        ends("pieceOf piece", BoundsTest::shaped, (x, v) -> x.pieceOf(v, 2)).least(0, 100, -1).greatest(2, 300, -1);
        ends("pieceOf what", BoundsTest::fired, (x, v) -> x.pieceOf(1, v)).least(0, 1, -2).greatest(6, 98, -2);
    }

    private static void kiln() {
        promise = 6;
        ends("place p", BoundsTest::empty, (x, v) -> x.place(v, 0, 7)).least(0, 10, -1).greatest(11, 10, -1);
        ends("place what", BoundsTest::empty, (x, v) -> x.place(6, v, 7)).least(0, 10, -2).greatest(1, 20, -2);
        ends("GAIN", BoundsTest::empty, (x, v) -> x.place(0, 0, v)).least(1, 10, -4).greatest(40, 10, -6);
        ends("LOSS", BoundsTest::empty, (x, v) -> x.place(11, 1, v)).least(0, 20, -4).greatest(200, 20, -6);

        promise = 7;
        ends("wood", BoundsTest::empty, (x, v) -> x.wood(v)).least(0, 1, -4).greatest(50, 1, -6);

        promise = 9;
        ends("peak p", BoundsTest::stacked, (x, v) -> x.peak(v)).least(0, 990, -1).greatest(11, 990, -1);
        ends("peak p without hours", BoundsTest::empty, (x, v) -> x.peak(v)).least(0, 0, -1).greatest(11, 0, -1);

        promise = 10;
        ends("heat p", BoundsTest::stacked, (x, v) -> x.heat(v, 1)).least(0, 500, -1).greatest(11, 500, -1);
        ends("heat n", BoundsTest::stacked, (x, v) -> x.heat(0, v)).least(0, 0, -4).greatest(2, 990, -6);
        ends("heat n without hours", BoundsTest::empty, (x, v) -> x.heat(0, v)).least(0, 0, -4).greatest(0, 0, -6);

        promise = 11;
        ends("stack piece", BoundsTest::shaped, (x, v) -> x.stack(v, 3)).least(0, 1, -1).greatest(2, 1, -1);
        ends("stack p", BoundsTest::shaped, (x, v) -> x.stack(1, v)).least(0, 1, -1).greatest(11, 1, -1);

        promise = 12;
        ends("unstack p", BoundsTest::stacked, (x, v) -> x.unstack(v)).least(0, 0, -1).greatest(11, 2, -1);

        promise = 14;
        ends("want piece", BoundsTest::shaped, (x, v) -> x.want(v, 1)).least(0, 1, -1).greatest(2, 1, -1);
        ends("WORTH", BoundsTest::shaped, (x, v) -> x.want(0, v)).least(1, 1, -4).greatest(999, 1, -6);

        promise = 16;
        ends("bestPlace i", BoundsTest::told, (x, v) -> x.bestPlace(v)).least(0, 0, -1).greatest(1, 1, -1);
    }

    private static void colours() {
        promise = 18;
        ends("colour c", BoundsTest::empty, (x, v) -> x.colour(v, 1, 2)).least(0, 1, -1).greatest(11, 1, -1);
        ends("FROM below TO 1000", BoundsTest::empty, (x, v) -> x.colour(0, v, 1000))
                .least(0, 1, -4).greatest(1000, 1, -4);
        ends("FROM below TO 5", BoundsTest::empty, (x, v) -> x.colour(0, v, 5)).least(0, 1, -4).greatest(5, 1, -4);
        ends("TO above FROM 5", BoundsTest::empty, (x, v) -> x.colour(0, 5, v)).least(5, 1, -4).greatest(1000, 1, -6);
        ends("TO above FROM 0", BoundsTest::empty, (x, v) -> x.colour(0, 0, v)).least(0, 1, -4).greatest(1000, 1, -6);
        ends("FROM and TO alike", BoundsTest::empty, (x, v) -> x.colour(0, v, v)).least(0, 1, -4).greatest(1000, 1, -6);

        promise = 19;
        ends("fires set", BoundsTest::empty, (x, v) -> x.fires(v)).least(0, 0, -1).greatest(4095, 1, -1);
        for (int bit = 0; bit < 32; bit++) {
            one("fires of a bit", BoundsTest::empty, (x, v) -> x.fires(v), 1 << bit, bit < 12 ? 1 : -1);
            one("fires of a bit and colour 0", BoundsTest::empty, (x, v) -> x.fires(v), 1 << bit | 1, bit < 12 ? 1 : -1);
        }

        promise = 20;
        Supplier<PorcelainWorks> two = () -> {
            PorcelainWorks x = new PorcelainWorks();
            x.colour(0, 100, 200);
            x.colour(11, 300, 400);
            return x;
        };
        ends("fireHeat set", two, (x, v) -> x.fireHeat(v, 0)).least(1, 100, -1).greatest(4095, 300, -1);
        ends("fireHeat i", two, (x, v) -> x.fireHeat(2049, v)).least(0, 300, -1).greatest(1, 100, -1);
    }

    private static void painters() {
        promise = 21;
        ends("skill painter", BoundsTest::empty, (x, v) -> x.skill(v, 2)).least(0, 1, -1).greatest(2, 1, -1);
        ends("SKILL", BoundsTest::empty, (x, v) -> x.skill(2, v)).least(1, 1, -4).greatest(20, 1, -6);

        promise = 22;
        ends("LOAD", BoundsTest::empty, (x, v) -> x.job(v)).least(1, 0, -4).greatest(500, 0, -6);

        promise = 24;
        Supplier<PorcelainWorks> three = () -> {
            PorcelainWorks x = new PorcelainWorks();
            x.job(3);
            x.job(3);
            x.job(3);
            return x;
        };
        ends("painter job", three, (x, v) -> x.painter(v)).least(0, 0, -9).greatest(2, 2, -9);
        for (int v : new int[] {MIN, -1, 0, 1, MAX}) {
            one("painter without jobs", BoundsTest::empty, (x, i) -> x.painter(i), v, -9);
        }
    }

    private static void services() {
        promise = 26;
        ends("service kind", BoundsTest::fired, (x, v) -> x.service(v, 1, 0)).least(0, 2, -1).greatest(9, 2, -1);
        ends("service n", BoundsTest::dozen, (x, v) -> x.service(0, v, 0)).least(1, 2, -4).greatest(12, 24, -6);
        ends("service t", BoundsTest::dozen, (x, v) -> x.service(0, 2, v)).least(0, 4, -4).greatest(100, 4, -6);

        promise = 27;
        ends("matched kind", BoundsTest::fired, (x, v) -> x.matched(v, 1, 0, 0)).least(0, 0, -1).greatest(9, 2, -1);
        ends("matched n", BoundsTest::dozen, (x, v) -> x.matched(0, v, 0, v - 1)).least(1, 0, -4).greatest(12, 11, -6);
        ends("matched t", BoundsTest::dozen, (x, v) -> x.matched(0, 2, v, 1)).least(0, 1, -4).greatest(100, 1, -6);
        ends("matched i", BoundsTest::dozen, (x, v) -> x.matched(0, 3, 0, v)).least(0, 0, -9).greatest(2, 2, -9);
        ends("matched i of 12", BoundsTest::dozen, (x, v) -> x.matched(0, 12, 0, v)).least(0, 0, -9).greatest(11, 11, -9);

        promise = 28;
        ends("sell kind", BoundsTest::fired, (x, v) -> x.sell(v, 1, 0)).least(0, 1, -1).greatest(9, 1, -1);
        ends("sell n", BoundsTest::dozen, (x, v) -> x.sell(0, v, 0)).least(1, 1, -4).greatest(12, 12, -6);
        ends("sell t", BoundsTest::dozen, (x, v) -> x.sell(0, 2, v)).least(0, 2, -4).greatest(100, 2, -6);
    }

    private static void chances() {
        promise = 29;
        ends("chance m", BoundsTest::empty, (x, v) -> x.chance(v, 0, 1024)).least(0, 1048576, -4).greatest(200, 1048576, -6);
        ends("chance k", BoundsTest::empty, (x, v) -> x.chance(200, v, 1024)).least(0, 1048576, -4).greatest(200, 1048576, -6);
        ends("chance w", BoundsTest::empty, (x, v) -> x.chance(1, 1, v)).least(0, 0, -4).greatest(1024, 1048576, -6);

        promise = 30;
        ends("make k", BoundsTest::empty, (x, v) -> x.make(v, 1024, 1)).least(0, 0, -4).greatest(200, 200, -6);
        ends("make w", BoundsTest::empty, (x, v) -> x.make(1, v, 1)).least(0, -9, -4).greatest(1024, 1, -6);
        ends("make q", BoundsTest::empty, (x, v) -> x.make(1, 1024, v)).least(0, 0, -4).greatest(1048576, 1, -6);
    }

    private static void secrets() {
        promise = 31;
        ends("see hand", BoundsTest::empty, (x, v) -> x.see(v, 0)).least(0, 1, -1).greatest(15, 1, -1);
        ends("see half", BoundsTest::empty, (x, v) -> x.see(0, v)).least(0, 1, -1).greatest(1, 1, -1);

        promise = 32;
        ends("talk a", BoundsTest::empty, (x, v) -> x.talk(v, 7)).least(0, 1, -1).greatest(15, 1, -1);
        ends("talk b", BoundsTest::empty, (x, v) -> x.talk(7, v)).least(0, 1, -1).greatest(15, 1, -1);
        for (int hand = -1; hand <= 16; hand++) {
            one("talk with itself", BoundsTest::empty, (x, v) -> x.talk(v, v), hand, -1);
        }

        promise = 33;
        Supplier<PorcelainWorks> seen = () -> {
            PorcelainWorks x = new PorcelainWorks();
            x.see(0, 0);
            x.see(15, 1);
            return x;
        };
        ends("knows hand", seen, (x, v) -> x.knows(v)).least(0, 1, -1).greatest(15, 2, -1);
    }

    private static void debts() {
        promise = 36;
        ends("OWED", BoundsTest::empty, (x, v) -> x.debt(v, 0)).least(0, 0, -4).greatest(1000000, 0, -6);
        ends("RATE", BoundsTest::empty, (x, v) -> x.debt(0, v)).least(0, 0, -4).greatest(500, 0, -6);

        Supplier<PorcelainWorks> two = () -> {
            PorcelainWorks x = new PorcelainWorks();
            x.debt(1000000, 500);
            x.debt(50, 500);
            return x;
        };
        Supplier<PorcelainWorks> grown = () -> {
            PorcelainWorks x = two.get();
            x.days(60);
            return x;
        };
        promise = 37;
        ends("pay debt", two, (x, v) -> x.pay(v, 1)).least(0, 999999, -1).greatest(1, 49, -1);
        ends("pay of 1000000", two, (x, v) -> x.pay(0, v)).least(1, 999999, -4).greatest(1000000, 0, -6);
        ends("pay of 50", two, (x, v) -> x.pay(1, v)).least(1, 49, -4).greatest(50, 0, -6);
        ends("pay of 2250000", grown, (x, v) -> x.pay(0, v)).least(1, 2249999, -4).greatest(1000000, 1250000, -6);

        promise = 38;
        ends("owed debt", two, (x, v) -> x.owed(v, 30)).least(0, 1500000, -1).greatest(1, 75, -1);
        ends("owed n", two, (x, v) -> x.owed(0, v)).least(0, 1000000, -4).greatest(4000, 2000000000, -6);
        Supplier<PorcelainWorks> last = () -> {
            PorcelainWorks x = two.get();
            x.days(4000);
            return x;
        };
        ends("owed n on day 4000", last, (x, v) -> x.owed(1, v)).least(0, 2000000000, -4).greatest(4000, 2000000000, -6);
    }

    /** 20 + b is asked for with none, one and 20 batches, so that the last that is told moves. */
    private static void counts() {
        promise = 40;
        for (int batches : new int[] {0, 1, 19, 20}) {
            Supplier<PorcelainWorks> state = () -> {
                PorcelainWorks x = new PorcelainWorks();
                for (int b = 0; b < batches; b++) {
                    x.batch(0, b + 1);
                }
                return x;
            };
            ends("count what", state, (x, v) -> x.count(v)).least(0, 0, -9);
            ends("count of refusals", state, (x, v) -> x.count(v)).greatest(16, 0, -9);
            for (int what = 17; what <= 41; what++) {
                int b = what - 20;
                one("count", state, (x, v) -> x.count(v), what, b >= 0 && b < batches ? b + 1 : -9);
            }
        }
    }

    public static void main(String[] args) {
        clay();
        pieces();
        kiln();
        colours();
        painters();
        services();
        chances();
        secrets();
        debts();
        counts();
        System.out.println(wrong == 0 ? "all answers are as due" : wrong + " answers are not as due");
        if (wrong != 0) {
            System.exit(1);
        }
    }
}
