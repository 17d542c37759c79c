import java.util.ArrayList;
import java.util.List;
import java.util.Random;
import java.util.function.ToIntFunction;

/**
 * "An object is used for at most 512 calls after it has been made": runs that go on to the 512th call,
 * in which the same is done again and again, and objects that are used side by side. The answers are
 * worked out by hand or follow from an answer that another call of the run must give.
 */
public final class LongRunsTest {
    private static final int MOST_CALLS = 512;

    private static int wrong = 0;
    private static String run = "";

    private static void due(String call, int got, int want) {
        if (got != want) {
            wrong++;
            if (wrong <= 40) {
                System.out.println(run + ": " + call + " answered " + got + ", due is " + want);
            }
        }
    }

    /** A run that is told longer than the document promises anything for is a fault of this test. */
    private static void calls(int made) {
        due("the number of calls, at most " + MOST_CALLS, made <= MOST_CALLS ? 1 : 0, 1);
    }

    /** Paste 0 is ripe at once and bears these; a batch of 1000 pounds of it. 4 calls. */
    private static PorcelainWorks works(int low, int high) {
        PorcelainWorks x = new PorcelainWorks();
        x.paste(0, 0, 0);
        x.paste(0, 2, low);
        x.paste(0, 3, high);
        x.batch(0, 1000);
        return x;
    }

    private static void shape(PorcelainWorks x, int kind, int n) {
        for (int i = 0; i < n; i++) {
            x.piece(0, kind, 1, 100);
        }
    }

    // ---- refusals

    private interface Refused {
        int of(PorcelainWorks x);
    }

    private static void refusalsToTheEnd() {
        int[] numbers = {-1, -2, -3, -4, -6};
        List<Refused> calls = new ArrayList<>();
        calls.add(x -> x.peak(12));
        calls.add(x -> x.place(0, 2, 1));
        calls.add(x -> x.fire());
        calls.add(x -> x.days(0));
        calls.add(x -> x.days(4001));
        for (int r = 0; r < numbers.length; r++) {
            run = "511 refusals " + numbers[r] + ", then how many";
            PorcelainWorks x = new PorcelainWorks();
            for (int i = 1; i < MOST_CALLS; i++) {
                due("refusal " + i, calls.get(r).of(x), numbers[r]);
            }
            due("how many", x.count(10 - numbers[r]), 511);
            run = "refusals " + numbers[r] + " are not counted as others";
            PorcelainWorks y = new PorcelainWorks();
            for (int i = 0; i < 500; i++) {
                calls.get(r).of(y);
            }
            for (int other = 1; other <= 6; other++) {
                due("how many -" + other, y.count(10 + other), other == -numbers[r] ? 500 : 0);
            }
            for (int what = 0; what <= 5; what++) {
                due("count " + what, y.count(what), 0);
            }
        }
    }

    // ---- the same question again and again

    private static void questionsToTheEnd() {
        ask("peak", x -> x.peak(5), 500);
        ask("heat", x -> x.heat(5, 2), 490);
        ask("best", x -> x.best(), 999 + 7);
        ask("bestPlace", x -> x.bestPlace(1), 1);
        ask("fires", x -> x.fires(3), 2);
        ask("fireHeat", x -> x.fireHeat(3, 1), 100);
        ask("least", x -> x.least(), 4);
        ask("painter", x -> x.painter(2), 1);
        ask("service", x -> x.service(3, 1, 0), 0);
        ask("matched", x -> x.matched(3, 1, 0, 0), 0);
        ask("chance", x -> x.chance(10, 8, 900), 932165);
        ask("make", x -> x.make(8, 900, 1000000), 11);
        ask("see", x -> x.see(0, 0), 0);
        ask("talk", x -> x.talk(1, 0), 0);
        ask("knows", x -> x.knows(1), 3);
        ask("joined", x -> x.joined(), 2);
        ask("leak", x -> x.leak(), 0);
        ask("owed", x -> x.owed(0, 30), 1100);
        ask("pieceOf", x -> x.pieceOf(0, 6), 100);
        ask("count", x -> x.count(20), 997);
    }

    /** A piece that is fired, two that are told, hours, colours, jobs, a talk and a debt. 23 calls. */
    private static PorcelainWorks begun() {
        PorcelainWorks x = works(0, 1000);
        shape(x, 3, 3);
        x.stack(0, 11);
        x.wood(50);
        x.fire();
        x.want(1, 999);
        x.want(2, 7);
        x.wood(50);
        x.wood(0);
        x.colour(0, 100, 200);
        x.colour(1, 300, 400);
        x.job(4);
        x.job(2);
        x.job(2);
        x.see(0, 0);
        x.see(1, 1);
        x.talk(0, 1);
        x.debt(1000, 100);
        return x;
    }

    private static void ask(String name, ToIntFunction<PorcelainWorks> question, int want) {
        run = name + " asked to the 512th call";
        PorcelainWorks x = begun();
        for (int i = 23; i < MOST_CALLS; i++) {
            due("call " + i, question.applyAsInt(x), want);
        }
        run = "behind " + name + " asked 400 times";
        PorcelainWorks y = begun();
        for (int i = 0; i < 400; i++) {
            question.applyAsInt(y);
        }
        int[] counts = {2, 1, 3, 2, 1, 0, 0, 0, 2, 50, 1, 0, 0, 0, 0, 0, 0};
        for (int what = 0; what < counts.length; what++) {
            due("count " + what, y.count(what), counts[what]);
        }
        due("laid", y.lay(), 2);
        due("fired", y.fire(), 2);
        due("day", y.count(0), 4);
        due("owed", y.owed(0, 27), 1000);
        due("owed behind a month", y.owed(0, 28), 1100);
    }

    // ---- the kiln again and again

    private static void eightyFired() {
        run = "80 pieces told, laid and fired by eights, painted and sold";
        PorcelainWorks x = works(0, 1000);
        for (int i = 0; i < 80; i++) {
            due("piece", x.piece(0, i % 2, 1, 100 + i), i);
        }
        for (int round = 0; round < 10; round++) {
            for (int i = 0; i < 8; i++) {
                due("told", x.want(8 * round + i, 1 + (i * 37 + round * 11) % 999), i + 1);
            }
            due("hour", x.wood(50 - round), 1);
            due("laid", x.lay(), 8);
            due("at the last place of eight", x.pieceOf(8 * round + 7, 4), 7);
            due("fired", x.fire(), 8);
            due("day", x.count(0), 2 * (round + 1));
            due("fired so far", x.count(4), 8 * (round + 1));
        }
        // The peak falls by 10 each round, WHITE so by 2.
        due("burned", x.count(9), 455);
        for (int i = 0; i < 80; i += 2) {
            due("white of " + i, x.pieceOf(i, 6), 100 - 2 * (i / 8));
            due("painted", x.paint(i), 1);
        }
        for (int round = 0; round < 3; round++) {
            // Of a kind there are four of each round: three rounds together, with 0, 2 and 4 less.
            due("twelve of kind 0", x.service(0, 12, 4), 24 + 72 * round);
            due("the last of them", x.matched(0, 12, 4, 11), 24 * round + 22);
            due("sold", x.sell(0, 12, 4), 12);
            due("twelve of kind 1", x.sell(1, 12, 4), 12);
        }
        due("what is left", x.service(0, 4, 0), 72);
        due("no more than four", x.service(0, 5, 100), -9);
        int[] counts = {20, 1, 80, 0, 4, 4, 0, 72, 0, 455, 0, 0, 0, 0, 0, 0, 0};
        for (int what = 0; what < counts.length; what++) {
            due("count " + what, x.count(what), counts[what]);
        }
        calls(4 + 80 + 10 * 14 + 1 + 80 + 12 + 2 + counts.length);
    }

    private static void outAndInAgain() {
        run = "a piece stacked and taken out again and again";
        PorcelainWorks x = works(0, 1000);
        shape(x, 0, 2);
        due("the other one stays", x.stack(1, 5), 1);
        for (int i = 0; i < 250; i++) {
            int p = i % 12 == 5 ? 4 : i % 12;
            due("stacked", x.stack(0, p), 1);
            due("out", x.unstack(p), 0);
        }
        due("where", x.pieceOf(0, 4), -9);
        due("where the other one is", x.pieceOf(1, 4), 5);
        due("that place", x.stack(0, 5), -3);
        due("the last call but one", x.unstack(5), 1);
        due("the last call", x.stack(0, 5), 1);
        calls(4 + 2 + 1 + 500 + 5);
    }

    private static void toldAgainAndAgain() {
        run = "pieces told and laid again and again, in ever other orders and with other worths";
        PorcelainWorks x = works(0, 1000);
        shape(x, 0, 13);
        x.wood(1);
        for (int p = 0; p < 10; p++) {
            x.stack(3 + p, p + 1);
        }
        // Places 0 and 11 are empty: of three the two of the greatest worth have them.
        int[][] orders = {{0, 1, 2}, {2, 1, 0}, {1, 0, 2}, {0, 2, 1}, {2, 0, 1}, {1, 2, 0}};
        int made = 4 + 13 + 1 + 10;
        for (int round = 0; round < 60; round++) {
            int[] order = orders[round % 6];
            int least = round / 6 % 3;
            int sum = 0;
            int next = 0;
            int[] places = new int[3];
            for (int i = 0; i < 3; i++) {
                int worth = order[i] == least ? 5 : 500 + order[i];
                due("told", x.want(order[i], worth), i + 1);
                places[i] = order[i] == least ? -9 : next++ == 0 ? 0 : 11;
                sum += order[i] == least ? 0 : worth;
            }
            due("best", x.best(), sum);
            due("place of the third", x.bestPlace(2), places[2]);
            due("laid", x.lay(), 2);
            int first = places[0] == 0 ? order[0] : order[1];
            due("out of 0", x.unstack(0), first);
            due("out of 11", x.unstack(11), 3 - least - first);
            made += 8;
        }
        due("raw still", x.count(3), 13);
        calls(made + 1);
    }

    private static void hoursAgainAndAgain() {
        run = "48 hours told, burned or cleared, ten times";
        PorcelainWorks x = new PorcelainWorks();
        for (int round = 0; round < 10; round++) {
            for (int h = 1; h <= 48; h++) {
                due("hour", x.wood((h + round) % 51), h);
            }
            due("49th", x.wood(1), -6);
            due("burned or cleared", round % 2 == 0 ? x.fire() : x.clear(), round % 2 == 0 ? 0 : 48);
            due("no hours", x.count(8), 0);
        }
        int burned = 0;
        for (int round = 0; round < 10; round += 2) {
            for (int h = 1; h <= 48; h++) {
                burned += (h + round) % 51;
            }
        }
        due("burned", x.count(9), burned);
        due("the last call", x.count(0), 10);
        calls(10 * 51 + 2);
    }

    // ---- days

    private static void everyDayOfAll() {
        run = "4000 days by eights, with debts";
        PorcelainWorks x = new PorcelainWorks();
        x.debt(1000, 33);
        x.debt(1000000, 500);
        x.debt(7, 0);
        int[] due = {x.owed(0, 4000), x.owed(1, 4000), x.owed(2, 4000)};
        for (int day = 8; day <= 4000; day += 8) {
            due("day", x.days(8), day);
        }
        for (int d = 0; d < 3; d++) {
            due("owed by debt " + d + " is what was said 4000 days ago", x.owed(d, 0), due[d]);
        }
        due("no day behind it", x.days(1), -6);
        due("the last call", x.count(0), 4000);
        calls(3 + 3 + 500 + 3 + 2);
        due("33 thousandths a month, 133 times, each cut", due[0], grown(1000, 33, 133));
        due("500 thousandths a month", due[1], 2000000000);
        due("none", due[2], 7);
    }

    private static int grown(long sum, int rate, int months) {
        long grown = sum;
        for (int i = 0; i < months; i++) {
            grown += grown * rate / 1000;
            grown = Math.min(grown, 2000000000L);
        }
        return (int) grown;
    }

    private static void stepsDoNotMatter() {
        run = "what is owed goes by days, not by the calls in which they pass";
        PorcelainWorks ones = new PorcelainWorks();
        PorcelainWorks sevens = new PorcelainWorks();
        PorcelainWorks once = new PorcelainWorks();
        for (PorcelainWorks x : new PorcelainWorks[] {ones, sevens, once}) {
            x.days(11);
            x.debt(123456, 77);
            x.days(3);
            x.debt(999, 499);
        }
        for (int i = 0; i < 490; i++) {
            ones.days(1);
        }
        for (int i = 0; i < 70; i++) {
            if (i % 2 == 0) {
                sevens.days(7);
            } else {
                sevens.days(5);
                sevens.wood(1);
                sevens.fire();
            }
        }
        once.days(490);
        for (int d = 0; d < 2; d++) {
            for (int n = 0; n < 4; n++) {
                int due = once.owed(d, 10 * n);
                due("day by day, debt " + d, ones.owed(d, 10 * n), due);
                due("by weeks and fires, debt " + d, sevens.owed(d, 10 * n), due);
            }
        }
        due("16 months", once.owed(0, 0), grown(123456, 77, 16));
        due("16 months", once.owed(1, 0), grown(999, 499, 16));
        calls(4 + 490 + 8);
    }

    private static void paidEachMonth() {
        run = "a debt paid each month what it is more by";
        PorcelainWorks x = new PorcelainWorks();
        x.debt(1000, 100);
        for (int month = 0; month < 127; month++) {
            x.days(29);
            due("a day short there is no more", x.owed(0, 0), 1000);
            x.days(1);
            due("paid", x.pay(0, 100), 1000);
        }
        due("not as much as is said without paying", x.owed(0, 30), 1100);
        due("day", x.count(0), 3810);
        calls(1 + 4 * 127 + 2);
    }

    private static void secretOfManyDays() {
        run = "a half that goes from hand to hand, one a day";
        PorcelainWorks x = new PorcelainWorks();
        x.see(0, 0);
        x.see(15, 1);
        for (int t = 0; t < 60; t++) {
            int a = t < 14 ? t : 1 + t % 13;
            due("talk", x.talk(a, a + 1), 1);
            due("safe", x.joined(), -9);
            due("no leak", x.leak(), -9);
            due("half 1 is with hand 15 alone", x.knows(15), 2);
            x.days(1);
            if (t < 14) {
                due("half 0 got there", x.knows(t + 1), 1);
            }
        }
        due("61st", x.talk(14, 15), -6);
        due("seen then", x.see(14, 1), 1);
        due("joined", x.joined(), 60);
        // Hand 0 talks in talk 0 alone: without it half 0 stays there.
        due("the first talk that carried it", x.leak(), 0);
        due("seen by the first hand, too", x.see(0, 1), 1);
        due("no talk joined these", x.leak(), -9);
        calls(2 + 5 * 60 + 14 + 6);
    }

    // ---- objects side by side

    private static void sideBySide() {
        run = "a new object behind a full one";
        PorcelainWorks full = works(5, 6);
        shape(full, 9, 80);
        for (int p = 0; p < 12; p++) {
            full.place(p, 0, 40);
            full.place(p, 1, 0);
            full.colour(p, 7, 9);
            full.stack(p, p);
        }
        for (int i = 0; i < 8; i++) {
            full.want(20 + i, 9);
            full.job(9);
        }
        for (int h = 0; h < 48; h++) {
            full.wood(50);
        }
        for (int p = 0; p < 3; p++) {
            full.skill(p, 20);
        }
        for (int h = 0; h < 15; h++) {
            full.talk(h, h + 1);
            full.see(h, 0);
            full.see(h, 1);
        }
        for (int d = 0; d < 6; d++) {
            full.debt(9, 9);
        }
        full.days(3998);
        full.paste(6, 0, 0);
        isNew(new PorcelainWorks());
        PorcelainWorks early = new PorcelainWorks();
        due("the full one goes on", full.fire(), 0);
        due("and is broken", full.count(6), 12);
        isNew(early);
    }

    private static void isNew(PorcelainWorks x) {
        for (int what = 0; what < 17; what++) {
            due("count " + what, x.count(what), 0);
        }
        int[] traits = {30, 120, 1200, 1400};
        for (int p = 0; p < 6; p++) {
            for (int what = 0; what < 4; what++) {
                due("trait", x.paste(p, what, traits[what]), traits[what]);
            }
        }
        for (int p = 0; p < 12; p++) {
            due("gain", x.place(p, 0, 10), 10);
            due("loss", x.place(p, 1, 20), 20);
            due("heat", x.heat(p, 0) + x.peak(p), 0);
            due("colour", x.fireHeat(1 << p, 0), 0);
            due("empty", x.unstack(p), -3);
        }
        for (int p = 0; p < 3; p++) {
            due("skill", x.skill(p, 1), 1);
        }
        for (int h = 0; h < 16; h++) {
            due("knows", x.knows(h), 0);
        }
        due("best", x.best(), 0);
        due("least", x.least(), 0);
        due("no piece", x.pieceOf(0, 0), -1);
        due("no debt", x.owed(0, 0), -1);
        due("joined", x.joined(), -9);
        due("leak", x.leak(), -9);
    }

    /** Two objects with the same calls, each ahead of the other by turns, and a third with others. */
    private static void alike() {
        run = "the same calls give the same answers, whatever other objects do";
        PorcelainWorks one = new PorcelainWorks();
        PorcelainWorks two = new PorcelainWorks();
        PorcelainWorks other = new PorcelainWorks();
        Random random = new Random(12);
        for (int i = 0; i < MOST_CALLS; i++) {
            int method = random.nextInt(19);
            int a = random.nextInt(14);
            int b = random.nextInt(200);
            int ahead = i % 2 == 0 ? some(one, method, a, b) : some(two, method, a, b);
            some(other, random.nextInt(19), b % 12, a);
            int behind = i % 2 == 0 ? some(two, method, a, b) : some(one, method, a, b);
            due("call " + i, behind, ahead);
        }
    }

    private static int some(PorcelainWorks x, int method, int a, int b) {
        switch (method) {
            case 0: return x.paste(a % 7, b % 4, b / 4);
            case 1: return x.batch(a % 6, 1 + b);
            case 2: return x.days(1 + b % 5);
            case 3: return x.piece(a % 4, b % 10, 1 + a, 10 + b);
            case 4: return x.place(a, b % 2, 1 + b % 40);
            case 5: return x.wood(b % 52);
            case 6: return x.stack(b % 20, a);
            case 7: return x.fire();
            case 8: return x.want(b % 20, b);
            case 9: return x.best();
            case 10: return x.lay();
            case 11: return x.colour(a, b, 3 * b);
            case 12: return x.fireHeat(b * 20, a % 3);
            case 13: return x.job(1 + b);
            case 14: return x.least();
            case 15: return x.see(a, b % 2);
            case 16: return x.talk(a, b % 16);
            case 17: return x.leak();
            default: return x.count(b % 40);
        }
    }

    public static void main(String[] args) {
        refusalsToTheEnd();
        questionsToTheEnd();
        eightyFired();
        outAndInAgain();
        toldAgainAndAgain();
        hoursAgainAndAgain();
        everyDayOfAll();
        stepsDoNotMatter();
        paidEachMonth();
        secretOfManyDays();
        sideBySide();
        alike();
        System.out.println(wrong == 0 ? "all answers are as due" : wrong + " answers are not as due");
        if (wrong != 0) {
            System.exit(1);
        }
    }
}
