/**
 * The sentences of the document's Terms that name an edge (a bound, a cut, a side, a tie, an empty or a
 * full state), each with a test of its own; the answers are worked out by hand.
 */
public final class TermsTest {
    private static int wrong = 0;
    private static String sentence = "";

    private static void due(String call, int got, int want) {
        if (got != want) {
            wrong++;
            System.out.println("\"" + sentence + "\": " + call + " answered " + got + ", due is " + want);
        }
    }

    /** An object with a paste 0 that is ripe at once and bears these, and a batch of 1000 pounds of it. */
    private static PorcelainWorks works(int low, int high) {
        PorcelainWorks x = new PorcelainWorks();
        bear(x, 0, low, high);
        x.batch(0, 1000);
        return x;
    }

    private static void bear(PorcelainWorks x, int paste, int low, int high) {
        x.paste(paste, 0, 0);
        x.paste(paste, 2, low);
        x.paste(paste, 3, high);
    }

    private static void shape(PorcelainWorks x, int batch, int kind, int n) {
        for (int i = 0; i < n; i++) {
            x.piece(batch, kind, 1, 100);
        }
    }

    private static void gains(PorcelainWorks x, int gain) {
        for (int p = 0; p < 12; p++) {
            x.place(p, 0, gain);
        }
    }

    private static void losses(PorcelainWorks x, int loss) {
        for (int p = 0; p < 12; p++) {
            x.place(p, 1, loss);
        }
    }

    // ---- I

    private static void days() {
        sentence = "DAYS go on from 0 (4000 at most)";
        PorcelainWorks x = new PorcelainWorks();
        due("first day", x.count(0), 0);
        due("days", x.days(1), 1);
        due("days", x.days(3998), 3999);
        due("one too many", x.days(2), -6);
        due("the last", x.days(1), 4000);
        due("none behind it", x.days(1), -6);
        due("day", x.count(0), 4000);
        due("a batch on the last day", x.batch(0, 1), 0);
        due("a debt on the last day", x.debt(7, 500), 0);
        due("a talk on the last day", x.talk(0, 1), 1);
        due("a half on the last day", x.see(0, 0) + x.see(0, 1), 2);
        due("joined on the last day", x.joined(), 4000);
    }

    private static void firstTraits() {
        sentence = "RIPE 30 at first; SHRINK 120 at first; LOW and HIGH 1200 and 1400 at first";
        int[] first = {30, 120, 1200, 1400};
        PorcelainWorks x = new PorcelainWorks();
        for (int p = 0; p < 6; p++) {
            for (int what = 0; what < 4; what++) {
                due("first", x.paste(p, what, 0), first[what]);
                due("then", x.paste(p, what, 1), 0);
            }
        }
    }

    private static void lowAboveHigh() {
        sentence = "LOW may be above HIGH";
        PorcelainWorks x = works(500, 500);
        shape(x, 0, 0, 3);
        x.wood(50);
        x.want(1, 9);
        due("alike", x.best(), 9);
        due("LOW above HIGH by 1", x.paste(0, 2, 501), 500);
        due("no place fires it", x.best(), 0);
        due("none", x.bestPlace(0), -9);
        due("LOW 2000", x.paste(0, 2, 2000), 501);
        due("HIGH 0", x.paste(0, 3, 0), 500);
        x.stack(0, 0);
        due("none is fired", x.fire(), 0);
        due("broken", x.pieceOf(0, 0), 3);
    }

    private static void batches() {
        sentence = "BATCHES have numbers from 0 on (20 at most)";
        PorcelainWorks x = new PorcelainWorks();
        due("none", x.count(20), -9);
        for (int b = 0; b < 20; b++) {
            due("number", x.batch(b % 6, 1 + b), b);
            due("batches", x.count(1), b + 1);
        }
        due("21st", x.batch(0, 1), -6);
        due("batches", x.count(1), 20);
        x.days(200);
        for (int b = 0; b < 20; b++) {
            due("a piece of it", x.piece(b, 0, 1, 10), b);
            due("its paste", x.pieceOf(b, 3), b % 6);
            due("left", x.count(20 + b), b);
        }
        due("an empty batch still has its number", x.batch(0, 1), -6);
        due("nothing left of batch 0", x.piece(0, 0, 1, 10), -6);
    }

    private static void ripe() {
        sentence = "RIPE if that is RIPE DAYS ago or more";
        for (int ripe : new int[] {0, 1, 2, 30, 199, 200}) {
            for (int mixed : new int[] {0, 5, 3800}) {
                PorcelainWorks x = new PorcelainWorks();
                x.paste(4, 0, ripe);
                if (mixed > 0) {
                    x.days(mixed);
                }
                x.batch(4, 10);
                if (ripe > 1) {
                    x.days(ripe - 1);
                }
                if (ripe > 0) {
                    due(ripe - 1 + " days ago", x.piece(0, 0, 1, 10), -3);
                    x.days(1);
                }
                due(ripe + " days ago", x.piece(0, 0, 1, 10), 0);
                x.days(3);
                due("more, or still the last day", x.piece(0, 0, 1, 10), 1);
            }
        }
    }

    private static void ripeByFiring() {
        sentence = "two DAYS pass";
        PorcelainWorks x = new PorcelainWorks();
        x.batch(0, 10);
        x.days(27);
        x.wood(1);
        x.fire();
        due("29 days ago", x.piece(0, 0, 1, 10), -3);
        x.wood(1);
        x.fire();
        due("31 days ago", x.piece(0, 0, 1, 10), 0);
        due("day", x.count(0), 31);
    }

    private static void pieces() {
        sentence = "PIECES have numbers from 0 on (80 at most)";
        PorcelainWorks x = works(0, 2000);
        for (int i = 0; i < 80; i++) {
            due("number", x.piece(0, i % 10, 1, 10 + i), i);
        }
        due("81st", x.piece(0, 0, 1, 10), -6);
        due("pieces", x.count(2), 80);
        due("left", x.count(20), 920);
        due("the last", x.pieceOf(79, 2), 89);
        due("the last kind", x.pieceOf(79, 1), 9);
        due("the last may be stacked", x.stack(79, 11), 1);
        due("out again", x.unstack(11), 79);
        due("and told", x.want(79, 1), 1);
        sentence = "an amount of POUNDS (1 .. 40), above what is left";
        PorcelainWorks y = works(0, 2000);
        for (int i = 0; i < 25; i++) {
            due("left ahead of it", y.count(20), 1000 - 40 * i);
            due("40 of 1000", y.piece(0, 0, 40, 10), i);
        }
        due("all is gone", y.count(20), 0);
        due("none left", y.piece(0, 0, 1, 10), -6);
    }

    // ---- II

    private static void rowHasEnds() {
        sentence = "in a row: PLACE p is beside p - 1 and p + 1";
        // One place at 40, the others at 1: an end gives 3 to the one beside it, others 3 to each of two.
        for (int hot = 0; hot < 12; hot++) {
            PorcelainWorks x = new PorcelainWorks();
            gains(x, 1);
            x.place(hot, 0, 40);
            x.wood(1);
            for (int p = 0; p < 12; p++) {
                boolean end = hot == 0 || hot == 11;
                int want = p == hot ? (end ? 37 : 33) : Math.abs(p - hot) == 1 ? 4 : 1;
                due("hot " + hot + ", heat of " + p, x.heat(p, 1), want);
            }
        }
    }

    private static void heatBegins() {
        sentence = "HEAT of a PLACE is 0 when a FIRE begins";
        PorcelainWorks x = new PorcelainWorks();
        x.wood(50);
        due("behind no hour", x.heat(3, 0), 0);
        due("behind one", x.heat(3, 1), 500);
        x.fire();
        due("behind the fire", x.heat(3, 0), 0);
        due("peak behind the fire", x.peak(3), 0);
        x.wood(1);
        due("from 0 again", x.heat(3, 1), 10);
        x.clear();
        x.wood(2);
        due("from 0 behind clear", x.peak(3), 20);
    }

    private static void hours() {
        sentence = "hours of WOOD (1 .. 48 hours, each 0 .. 50)";
        PorcelainWorks x = new PorcelainWorks();
        gains(x, 40);
        losses(x, 0);
        for (int h = 1; h <= 48; h++) {
            due("hour", x.wood(50), h);
        }
        due("49th", x.wood(0), -6);
        for (int h = 0; h <= 48; h++) {
            due("heat behind " + h, x.heat(h % 12, h), 2000 * h);
        }
        due("behind hours that are not told", x.heat(0, 49), -6);
        due("peak", x.peak(11), 96000);
        due("none in it", x.fire(), 0);
        due("burned", x.count(9), 2400);
        due("not told any more", x.count(8), 0);
        for (int h = 1; h <= 48; h++) {
            due("room again", x.wood(50), h);
        }
        due("a second fire", x.fire(), 0);
        due("burned so far", x.count(9), 4800);
        sentence = "each 0 .. 50";
        due("an hour without wood is one", x.wood(0), 1);
        due("a fire of one hour", x.fire(), 0);
        due("nothing burned", x.count(9), 4800);
    }

    private static void lossIsCut() {
        sentence = "less by (what HEAT was) times LOSS by 1000, cut";
        // {GAIN, WOOD, LOSS, heat behind an hour more without wood}
        int[][] rows = {
            {1, 49, 20, 49}, {1, 50, 20, 49}, {2, 49, 20, 97}, {3, 33, 20, 98}, {2, 50, 20, 98},
            {1, 4, 200, 4}, {1, 5, 200, 4}, {1, 9, 200, 8}, {1, 10, 200, 8},
            {20, 50, 1, 999}, {27, 37, 1, 999}, {40, 50, 0, 2000}, {40, 50, 200, 1600}, {1, 0, 200, 0},
        };
        for (int[] row : rows) {
            PorcelainWorks x = new PorcelainWorks();
            gains(x, row[0]);
            losses(x, row[2]);
            x.wood(row[1]);
            x.wood(0);
            due("heat", x.heat(6, 1), row[0] * row[1]);
            due("gain " + row[0] + ", wood " + row[1] + ", loss " + row[2], x.heat(6, 2), row[3]);
        }
        sentence = "(what HEAT was)";
        PorcelainWorks x = new PorcelainWorks();
        x.wood(50);
        x.wood(50);
        x.wood(50);
        due("the gain of this hour is not lost in it", x.heat(0, 2), 990);
        due("990 and 500 less 19", x.heat(0, 3), 1471);
    }

    private static void tenthTowardsZero() {
        sentence = "then it is more by a tenth, towards 0 (it may be below 0)";
        int[][] rows = {{1, 1, 2}, {9, 1, 10}, {10, 2, 10}, {11, 2, 11}, {19, 2, 19}, {20, 3, 19}, {29, 3, 28}, {39, 4, 37}};
        for (int[] row : rows) {
            PorcelainWorks colder = new PorcelainWorks();
            gains(colder, 1);
            colder.place(1, 0, 1 + row[0]);
            colder.wood(1);
            due(row[0] + " below the one beside it", colder.heat(0, 1), row[1]);
            PorcelainWorks hotter = new PorcelainWorks();
            gains(hotter, 1);
            hotter.place(11, 0, 1 + row[0]);
            hotter.wood(1);
            due(row[0] + " above the one beside it", hotter.heat(11, 1), row[2]);
        }
        sentence = "of the sum over PLACES beside it";
        PorcelainWorks x = new PorcelainWorks();
        gains(x, 10);
        x.place(4, 0, 15);
        x.place(6, 0, 15);
        x.wood(1);
        due("5 and 5 below: one tenth of 10, not two of 5", x.heat(5, 1), 11);
        due("5 above on both sides", x.heat(4, 1), 14);
        due("5 below on one side", x.heat(3, 1), 10);
        x.place(6, 0, 5);
        due("5 below and 5 above", x.heat(5, 1), 10);
    }

    private static void allAtOnce() {
        sentence = "of all PLACES at once (as these are ahead of that tenth)";
        PorcelainWorks x = new PorcelainWorks();
        gains(x, 1);
        x.place(0, 0, 40);
        x.wood(5);
        due("200 less a tenth of 195", x.heat(0, 1), 181);
        due("5 and a tenth of 195, not of 176", x.heat(1, 1), 24);
        due("5: the one beside it was 5, too", x.heat(2, 1), 5);
        x.wood(0);
        // 181 24 5 lose 3 0 0: 178 24 5; then 178 - 15, 24 + 13, 5 + 1.
        due("hour 2 at 0", x.heat(0, 2), 163);
        due("hour 2 at 1", x.heat(1, 2), 37);
        due("hour 2 at 2", x.heat(2, 2), 6);
        due("hour 2 at 3", x.heat(3, 2), 5);
    }

    private static void peak() {
        sentence = "PEAK: the greatest HEAT behind any hour (0 without)";
        PorcelainWorks x = new PorcelainWorks();
        due("without", x.peak(0), 0);
        x.wood(0);
        due("an hour without wood", x.peak(0), 0);
        x.wood(30);
        x.wood(0);
        due("the hour ahead of the last", x.peak(0), 300);
        due("heat of the last", x.heat(0, 3), 294);
        x.wood(50);
        due("the last", x.peak(0), 789);
        x.wood(0);
        x.wood(0);
        due("still", x.peak(0), 789);
        PorcelainWorks y = new PorcelainWorks();
        gains(y, 1);
        y.place(0, 0, 40);
        y.wood(50);
        due("behind the hour, not within it: 2000 less a tenth of 1950", y.peak(0), 1805);
        y.place(0, 0, 1);
        due("by what GAIN is now", y.peak(0), 50);
    }

    private static void firingRange() {
        sentence = "each PIECE whose PLACE has a PEAK within LOW .. HIGH of its PASTE is FIRED; others are BROKEN";
        int[][] rows = {
            {500, 500, 1}, {499, 501, 1}, {500, 2000, 1}, {0, 500, 1}, {501, 2000, 0}, {0, 499, 0},
            {501, 499, 0}, {501, 501, 0}, {499, 499, 0}, {0, 2000, 1}, {2000, 2000, 0}, {0, 0, 0},
        };
        for (int[] row : rows) {
            PorcelainWorks x = works(row[0], row[1]);
            shape(x, 0, 0, 1);
            x.stack(0, 11);
            x.wood(50);
            String bears = row[0] + " .. " + row[1];
            due("fired by " + bears, x.fire(), row[2]);
            due("state by " + bears, x.pieceOf(0, 0), row[2] == 1 ? 1 : 3);
            due("peak by " + bears, x.pieceOf(0, 5), 500);
            due("it is out", x.pieceOf(0, 4), -9);
            due("the place is empty", x.unstack(11), -3);
        }
        PorcelainWorks least = works(0, 0);
        shape(least, 0, 0, 1);
        least.stack(0, 0);
        least.wood(0);
        due("PEAK 0 within 0 .. 0", least.fire(), 1);
        due("its white", least.pieceOf(0, 6), 100);
        due("its peak", least.pieceOf(0, 5), 0);
        PorcelainWorks greatest = works(2000, 2000);
        gains(greatest, 40);
        shape(greatest, 0, 0, 2);
        greatest.stack(0, 0);
        greatest.wood(50);
        due("PEAK 2000 within 2000 .. 2000", greatest.fire(), 1);
        due("its white", greatest.pieceOf(0, 6), 100);
        greatest.stack(1, 0);
        greatest.wood(50);
        greatest.wood(2);
        due("PEAK 2040 is above all", greatest.fire(), 0);
        due("its peak", greatest.pieceOf(1, 5), 2040);
    }

    private static void firingOfAll() {
        sentence = "STACKED: RAW PIECES, one at a PLACE at most; all come out";
        PorcelainWorks x = works(0, 2000);
        shape(x, 0, 0, 13);
        for (int p = 0; p < 12; p++) {
            due("stacked", x.stack(p, 11 - p), 1);
        }
        for (int p = 0; p < 12; p++) {
            due("no place is empty", x.stack(12, p), -3);
        }
        x.wood(50);
        due("all are fired", x.fire(), 12);
        for (int p = 0; p < 12; p++) {
            due("a fired one", x.stack(p, p), -3);
            due("empty", x.unstack(p), -3);
        }
        due("not in the kiln: raw still", x.pieceOf(12, 0), 0);
        for (int p = 0; p < 12; p++) {
            due("each place takes one again", x.stack(12, p), 1);
            due("and gives it back", x.unstack(p), 12);
        }
    }

    private static void shrink() {
        sentence = "its SIZE less by SIZE times SHRINK by 1000 (cut)";
        int[][] rows = {
            {10, 0, 10}, {10, 99, 10}, {10, 100, 9}, {10, 199, 9}, {10, 200, 8}, {10, 300, 7},
            {900, 0, 900}, {900, 1, 900}, {900, 2, 899}, {900, 299, 631}, {900, 300, 630}, {99, 120, 88}, {100, 120, 88},
            {27, 37, 27}, {111, 9, 111}, {25, 40, 24}, {333, 3, 333}, {500, 2, 499},
        };
        for (int[] row : rows) {
            PorcelainWorks x = works(0, 2000);
            x.paste(0, 1, row[1]);
            x.piece(0, 0, 1, row[0]);
            x.piece(0, 0, 1, row[0]);
            x.stack(0, 0);
            x.wood(1);
            x.fire();
            due(row[0] + " by " + row[1], x.pieceOf(0, 2), row[2]);
            due("a raw one keeps its size", x.pieceOf(1, 2), row[0]);
            x.paste(0, 2, 2000);
            x.stack(1, 0);
            x.wood(1);
            x.fire();
            due("a broken one keeps its size", x.pieceOf(1, 2), row[0]);
            x.paint(0);
            x.sell(0, 1, 0);
            due("a sold one has the size of the fired one", x.pieceOf(0, 2), row[2]);
        }
    }

    private static void woodIsBurned() {
        sentence = "the hours are told no more, their WOOD is burned";
        PorcelainWorks x = new PorcelainWorks();
        x.wood(50);
        x.wood(7);
        due("told, not burned", x.count(9), 0);
        x.clear();
        due("cleared, not burned", x.count(9), 0);
        x.wood(50);
        x.wood(0);
        x.wood(7);
        x.fire();
        due("burned", x.count(9), 57);
        due("hours", x.count(8), 0);
        due("no hours for another one", x.fire(), -3);
        due("clear has none", x.clear(), 0);
        due("burned once", x.count(9), 57);
        x.days(3996);
        x.wood(3);
        due("to day 4000", x.fire(), 0);
        x.wood(4);
        due("behind day 4000", x.fire(), -6);
        due("not burned", x.count(9), 60);
        due("still told", x.clear(), 1);
    }

    private static void white() {
        sentence = "WHITE: 100 less by how much its PEAK is from the middle (cut), by 5 (cut), 0 at least";
        // By a PEAK of 500: LOW, HIGH, WHITE.
        int[][] rows = {
            {0, 1000, 100}, {0, 1001, 100}, {0, 1009, 100}, {0, 1010, 99}, {0, 1019, 99}, {0, 1020, 98},
            {0, 992, 100}, {0, 991, 99}, {0, 990, 99}, {0, 500, 50}, {500, 500, 100}, {499, 500, 100},
            {490, 502, 100}, {490, 501, 99}, {490, 500, 99}, {0, 1989, 2}, {0, 1990, 1}, {0, 1999, 1}, {0, 2000, 0},
            {9, 2000, 0}, {10, 2000, 0}, {500, 2000, 0},
        };
        for (int[] row : rows) {
            PorcelainWorks x = works(row[0], row[1]);
            shape(x, 0, 3, 1);
            x.stack(0, 5);
            x.wood(50);
            due("fired", x.fire(), 1);
            String by = row[0] + " .. " + row[1];
            due("white by " + by, x.pieceOf(0, 6), row[2]);
            due("lacking by " + by, x.service(3, 1, 0), 100 - row[2]);
        }
        PorcelainWorks x = works(0, 1000);
        gains(x, 40);
        shape(x, 0, 0, 2);
        x.stack(0, 0);
        x.wood(25);
        x.fire();
        due("500 above the middle", x.pieceOf(0, 6), 0);
        x.paste(0, 3, 1002);
        x.stack(1, 0);
        x.wood(25);
        x.fire();
        due("499 above the middle", x.pieceOf(1, 6), 1);
    }

    // ---- II, the best stacking

    private static void bestOfMost() {
        sentence = "BEST STACKING of PIECES that are told (8 at most): each has a WORTH (1 .. 999)";
        PorcelainWorks x = works(0, 2000);
        shape(x, 0, 0, 20);
        x.wood(1);
        due("none told", x.best(), 0);
        for (int i = 0; i < 8; i++) {
            due("told", x.want(10 + i, 999), i + 1);
            due("worth", x.best(), 999 * (i + 1));
            due("least place", x.bestPlace(i), i);
            due("none such", x.bestPlace(i + 1), -1);
        }
        due("9th", x.want(9, 1), -6);
        due("9th is not told: it may be stacked", x.stack(9, 0), 1);
        for (int i = 0; i < 8; i++) {
            due("place 0 is not empty any more", x.bestPlace(i), i + 1);
        }
        due("laid", x.lay(), 8);
        due("none told", x.best(), 0);
        due("none such", x.bestPlace(0), -1);
        for (int i = 0; i < 8; i++) {
            due("there", x.pieceOf(10 + i, 4), i + 1);
        }
        due("room for others", x.want(0, 1), 1);
        due("the next place", x.bestPlace(0), 9);
        due("told ones are not told again", x.want(10, 1), -3);
        x.unstack(3);
        due("taken out it may be", x.want(12, 1), 2);
    }

    private static void bestWithFewPlaces() {
        sentence = "none is behind all PLACES";
        PorcelainWorks x = works(0, 2000);
        shape(x, 0, 0, 20);
        int[] empty = {2, 7, 11};
        int piece = 0;
        for (int p = 0; p < 12; p++) {
            if (p != 2 && p != 7 && p != 11) {
                x.stack(piece, p);
                piece++;
            }
        }
        x.wood(1);
        for (int i = 0; i < 8; i++) {
            x.want(19 - i, 5);
        }
        due("three of eight alike", x.best(), 15);
        for (int i = 0; i < 8; i++) {
            due("the first that are told, not those of the least numbers", x.bestPlace(i), i < 3 ? empty[i] : -9);
        }
        due("laid", x.lay(), 3);
        due("full", x.lay(), 0);
        due("told no more, though without a place", x.want(12, 1), 1);
        due("no place is empty", x.best(), 0);
        due("none", x.bestPlace(0), -9);
        due("none is laid", x.lay(), 0);
        x.unstack(7);
        due("told no more", x.stack(12, 7), 1);
    }

    private static void bestByWorth() {
        sentence = "the one in which those that would be FIRED have the greatest WORTH together";
        PorcelainWorks x = works(0, 2000);
        shape(x, 0, 0, 20);
        for (int p = 0; p < 12; p++) {
            if (p != 4 && p != 9) {
                x.stack(p, p);
            }
        }
        x.wood(1);
        int[] worths = {1, 7, 3, 8, 8, 2, 7, 1};
        for (int i = 0; i < 8; i++) {
            x.want(12 + i, worths[i]);
        }
        due("8 and 8", x.best(), 16);
        int[] want = {-9, -9, -9, 4, 9, -9, -9, -9};
        for (int i = 0; i < 8; i++) {
            due("place of " + i, x.bestPlace(i), want[i]);
        }
        x.stack(4, 9);
        due("8 alone", x.best(), 8);
        due("the first of two alike", x.bestPlace(3), 4);
        due("the second has none", x.bestPlace(4), -9);
        x.stack(9, 4);
        due("no place", x.best(), 0);
        due("none laid", x.lay(), 0);
    }

    private static void bestByPaste() {
        sentence = "PIECES that would not be FIRED have none";
        PorcelainWorks x = works(500, 500);
        bear(x, 1, 501, 2000);
        bear(x, 2, 0, 499);
        x.batch(1, 10);
        x.batch(2, 10);
        x.piece(1, 0, 1, 10);
        x.piece(2, 0, 1, 10);
        x.piece(0, 0, 1, 10);
        x.want(0, 999);
        x.want(1, 999);
        x.want(2, 1);
        x.wood(50);
        due("only the one that bears 500", x.best(), 1);
        due("LOW is 1 above", x.bestPlace(0), -9);
        due("HIGH is 1 below", x.bestPlace(1), -9);
        due("at both", x.bestPlace(2), 0);
        x.wood(1);
        due("500 is the peak still: 490 and 10", x.best(), 1);
        x.wood(2);
        due("510 and 10: above", x.peak(0), 510);
        due("only the one that bears 501", x.best(), 999);
        due("its place", x.bestPlace(0), 0);
        due("above", x.bestPlace(2), -9);
        x.clear();
        due("without hours PEAK is 0", x.best(), 999);
        due("the one that bears 0", x.bestPlace(1), 0);
        due("laid", x.lay(), 1);
        due("there", x.pieceOf(1, 4), 0);
        due("others are told no more", x.stack(0, 1) + x.stack(2, 2), 2);
    }

    /** With 10 wood the peaks are 110 at 0, 200 at 1, 300 at 2, 356 at 3, and below 105 at the others. */
    private static void fourWarmPlaces(PorcelainWorks x) {
        int[] gains = {10, 20, 30, 40, 6};
        for (int p = 0; p < gains.length; p++) {
            x.place(p, 0, gains[p]);
        }
    }

    private static void bestByMovingOne() {
        sentence = "of all ways to put some of them at PLACES that are empty";
        PorcelainWorks x = works(105, 205);
        fourWarmPlaces(x);
        bear(x, 1, 105, 115);
        bear(x, 2, 0, 2000);
        x.batch(1, 10);
        x.batch(2, 10);
        x.piece(2, 0, 1, 10);
        x.piece(0, 0, 1, 10);
        x.piece(1, 0, 1, 10);
        x.piece(1, 0, 1, 10);
        x.wood(10);
        x.want(0, 1);
        x.want(1, 9);
        x.want(2, 8);
        x.want(3, 7);
        due("9 moves on for 8; 7 has no place; 1 is anywhere", x.best(), 18);
        due("the least that others leave", x.bestPlace(0), 2);
        due("its other place", x.bestPlace(1), 1);
        due("its only place", x.bestPlace(2), 0);
        due("none", x.bestPlace(3), -9);
        due("laid", x.lay(), 3);
        due("fired", x.fire(), 3);
    }

    /** Two of 200 alone; one of 200 .. 356 that must leave that place but has one more; one of 110 .. 356. */
    private static void bestByMovingOnce() {
        PorcelainWorks x = works(195, 205);
        fourWarmPlaces(x);
        bear(x, 1, 105, 400);
        bear(x, 2, 195, 400);
        x.batch(1, 10);
        x.batch(2, 10);
        x.piece(0, 0, 1, 10);
        x.piece(1, 0, 1, 10);
        x.piece(2, 0, 1, 10);
        x.piece(0, 0, 1, 10);
        x.wood(10);
        due("peak 3", x.peak(3), 356);
        x.want(0, 6);
        x.want(1, 8);
        x.want(2, 9);
        x.want(3, 7);
        due("two cannot have one place, though others have places to spare", x.best(), 24);
        due("none", x.bestPlace(0), -9);
        due("least", x.bestPlace(1), 0);
        due("moved", x.bestPlace(2), 2);
        due("its only place", x.bestPlace(3), 1);
        due("laid", x.lay(), 3);
    }

    /** Each of five takes one of two places that are beside each other; the sixth takes only the first. */
    private static void bestByMovingAll() {
        PorcelainWorks x = new PorcelainWorks();
        for (int p = 0; p < 12; p++) {
            x.place(p, 0, 3 * p + 3);
        }
        x.wood(10);
        due("peak 0", x.peak(0), 33);
        due("peak 5", x.peak(5), 180);
        for (int p = 0; p < 5; p++) {
            bear(x, p, 30 * p + 25, 30 * p + 65);
        }
        bear(x, 5, 25, 35);
        int[] pastes = {5, 3, 0, 5, 4, 1, 5, 2};
        int[] worths = {1, 6, 9, 4, 5, 8, 1, 7};
        int[] places = {-9, 4, 1, 0, 5, 2, -9, 3};
        for (int p = 0; p < 6; p++) {
            x.batch(p, 10);
        }
        for (int i = 0; i < 8; i++) {
            x.piece(pastes[i], 0, 1, 10);
            due("told", x.want(i, worths[i]), i + 1);
        }
        due("all but the two of 1", x.best(), 39);
        for (int i = 0; i < 8; i++) {
            due("place of " + i, x.bestPlace(i), places[i]);
        }
        due("still", x.best(), 39);
        due("laid", x.lay(), 6);
        for (int i = 0; i < 8; i++) {
            due("place of " + i, x.pieceOf(i, 4), places[i]);
        }
        due("all are fired", x.fire(), 6);
    }

    private static void toldStaysTold() {
        sentence = "told for BEST STACKING";
        PorcelainWorks x = works(0, 2000);
        shape(x, 0, 0, 2);
        x.want(0, 5);
        x.stack(1, 0);
        x.wood(1);
        due("fired", x.fire(), 1);
        due("a told one is not in the kiln", x.pieceOf(0, 0), 0);
        due("still told", x.want(0, 5), -3);
        due("still told", x.stack(0, 0), -3);
        x.clear();
        x.days(10);
        due("still told", x.bestPlace(0), 0);
        due("laid", x.lay(), 1);
        due("stacked now", x.stack(0, 1), -3);
        due("stacked now", x.unstack(0), 0);
        due("loose again", x.stack(0, 1), 1);
    }

    // ---- III

    private static void colourEdges() {
        sentence = "an interval FROM .. TO of heats (0 .. 1000) at which a FIRE fixes them (FROM at most TO)";
        PorcelainWorks x = new PorcelainWorks();
        due("0 .. 0", x.colour(0, 0, 0), 1);
        due("1000 .. 1000", x.colour(1, 1000, 1000), 1);
        due("0 .. 1000", x.colour(2, 0, 1000), 1);
        due("two", x.fires(3), 2);
        due("the hottest first", x.fireHeat(3, 0), 1000);
        due("then the least", x.fireHeat(3, 1), 0);
        due("the wide one with both", x.fires(7), 2);
        due("the wide one alone: the least that may be", x.fireHeat(4, 0), 0);
        due("the wide one with the hot one", x.fires(6), 1);
        due("at its heat", x.fireHeat(6, 0), 1000);
        sentence = "A FIRE hotter than TO spoils it";
        x.colour(3, 100, 499);
        x.colour(4, 500, 600);
        x.colour(5, 100, 500);
        due("TO 1 below FROM", x.fires(8 | 16), 2);
        due("hottest", x.fireHeat(8 | 16, 0), 500);
        due("second", x.fireHeat(8 | 16, 1), 100);
        due("none such", x.fireHeat(8 | 16, 2), -1);
        due("TO at FROM", x.fires(32 | 16), 1);
        due("where they touch", x.fireHeat(32 | 16, 0), 500);
        due("all three", x.fires(8 | 16 | 32), 2);
    }

    private static void fewestFires() {
        sentence = "the fewest FIRES that fix all; their heats, the hottest first, each the least that may be";
        PorcelainWorks x = new PorcelainWorks();
        due("of none", x.fires(0), 0);
        due("no heat of none", x.fireHeat(0, 0), -1);
        for (int c = 0; c < 12; c++) {
            x.colour(c, 80 * c, 80 * c + 79);
        }
        due("each its own", x.fires(4095), 12);
        for (int i = 0; i < 12; i++) {
            due("heat", x.fireHeat(4095, i), 80 * (11 - i));
        }
        due("no 13th", x.fireHeat(4095, 12), -1);
        for (int c = 0; c < 12; c++) {
            x.colour(c, 80 * c, Math.min(1000, 80 * c + 80));
        }
        due("neighbours touch", x.fires(4095), 6);
        for (int i = 0; i < 6; i++) {
            due("heat", x.fireHeat(4095, i), 80 * (11 - 2 * i));
        }
        for (int c = 0; c < 12; c++) {
            x.colour(c, c, 1000 - c);
        }
        due("one in the other", x.fires(4095), 1);
        due("the greatest FROM", x.fireHeat(4095, 0), 11);
        due("of a part", x.fireHeat(1 | 2 | 4, 0), 2);
    }

    private static void paintersCutUp() {
        sentence = "a PAINTER takes LOAD by SKILL DAYS, cut up, for each";
        int[][] rows = {{1, 20, 1}, {19, 20, 1}, {20, 20, 1}, {21, 20, 2}, {500, 20, 25}, {500, 19, 27}, {500, 1, 500}, {1, 1, 1}};
        for (int[] row : rows) {
            PorcelainWorks x = new PorcelainWorks();
            for (int p = 0; p < 3; p++) {
                x.skill(p, row[1]);
            }
            x.job(row[0]);
            due(row[0] + " by " + row[1], x.least(), row[2]);
            due("the least painter", x.painter(0), 0);
            due("no second job", x.painter(1), -9);
        }
        PorcelainWorks x = new PorcelainWorks();
        x.skill(1, 20);
        for (int j = 0; j < 8; j++) {
            due("job", x.job(1), j);
        }
        due("each is cut up on its own: 8 of 1 day, shared by three", x.least(), 3);
        due("9th", x.job(1), -6);
        int[] want = {0, 0, 0, 1, 1, 1, 2, 2};
        for (int j = 0; j < 8; j++) {
            due("painter of " + j, x.painter(j), want[j]);
        }
        due("none such", x.painter(8), -9);
    }

    private static void leastDays() {
        sentence = "of several the one in which the first JOB has the least PAINTER, then the second";
        PorcelainWorks x = new PorcelainWorks();
        due("without jobs", x.least(), 0);
        due("without jobs", x.painter(0), -9);
        x.job(4);
        x.job(2);
        x.job(2);
        due("4, and 2 and 2", x.least(), 4);
        due("first", x.painter(0), 0);
        due("second", x.painter(1), 1);
        due("third: not painter 2", x.painter(2), 1);
        PorcelainWorks y = new PorcelainWorks();
        y.job(2);
        y.job(2);
        y.job(4);
        due("2 and 2, and 4", y.least(), 4);
        due("first", y.painter(0), 0);
        due("second", y.painter(1), 0);
        due("third", y.painter(2), 1);
        PorcelainWorks z = new PorcelainWorks();
        for (int j = 0; j < 8; j++) {
            z.job(500);
        }
        due("3, 3 and 2 of the greatest load", z.least(), 1500);
        due("the third", z.painter(2), 0);
        due("the last", z.painter(7), 2);
        z.skill(2, 20);
        due("painter 2 does all in 200, the others each take 500", z.least(), 200);
        for (int j = 0; j < 8; j++) {
            due("painter", z.painter(j), 2);
        }
    }

    // ---- IV

    /** Fires pieces of kind 6 that have these WHITES, each from a paste of its own, by a PEAK of 500. */
    private static PorcelainWorks whites(int... whites) {
        PorcelainWorks x = new PorcelainWorks();
        x.paste(0, 0, 0);
        x.paste(0, 2, 0);
        x.batch(0, 1000);
        for (int i = 0; i < whites.length; i++) {
            x.piece(0, 6, 1, 100);
            x.paste(0, 3, 1000 + 10 * (100 - whites[i]));
            x.stack(i, 0);
            x.wood(50);
            x.fire();
            due("white", x.pieceOf(i, 6), whites[i]);
        }
        return x;
    }

    private static void serviceEdges() {
        sentence = "whose WHITE differs by T at most (greatest less least)";
        PorcelainWorks x = whites(100, 0, 60, 61);
        due("100 and 0 within 100", x.service(6, 4, 100), 179);
        due("not within 99", x.service(6, 4, 99), -9);
        due("61 and 60 within 1", x.service(6, 2, 1), 79);
        due("not within 0", x.service(6, 2, 0), -9);
        due("within 38 still those two", x.service(6, 2, 38), 79);
        due("100 and 61 within 39", x.service(6, 2, 39), 39);
        due("three within 39", x.service(6, 3, 39), -9);
        due("three within 40", x.service(6, 3, 40), 79);
        due("one within 0", x.service(6, 1, 0), 0);
        due("too few", x.service(6, 5, 100), -9);
        due("not enough to sell", x.sell(6, 5, 100), -3);
        due("nothing sold", x.count(7), 0);
    }

    private static void matchedEdges() {
        sentence = "MATCHED are those n of them with the least sum; alike ones by numbers";
        PorcelainWorks x = whites(90, 90, 100, 90, 80, 100, 80, 90);
        due("the two of 100", x.service(6, 2, 0), 0);
        due("first", x.matched(6, 2, 0, 0), 2);
        due("second", x.matched(6, 2, 0, 1), 5);
        due("three alike: of 90", x.service(6, 3, 9), 30);
        int[] three = {0, 1, 3};
        for (int i = 0; i < 3; i++) {
            due("the least numbers of four alike", x.matched(6, 3, 9, i), three[i]);
        }
        due("three within 10", x.service(6, 3, 10), 10);
        int[] mixed = {0, 2, 5};
        for (int i = 0; i < 3; i++) {
            due("by numbers, not by white", x.matched(6, 3, 10, i), mixed[i]);
        }
        due("none such", x.matched(6, 3, 10, 3), -9);
        due("four alike", x.matched(6, 4, 0, 3), 7);
        PorcelainWorks two = whites(90, 100);
        due("two", two.service(6, 2, 10), 10);
        due("the less white one has the least number", two.matched(6, 2, 10, 0), 0);
        due("the whiter one", two.matched(6, 2, 10, 1), 1);
        due("seven", x.service(6, 7, 20), 60);
        due("the last but one of 80", x.matched(6, 7, 20, 4), 4);
        due("the other of 80 is left out", x.matched(6, 7, 20, 6), 7);
        sentence = "n FIRED PIECES of that KIND (also PAINTED)";
        x.paint(2);
        due("painted", x.matched(6, 2, 0, 0), 2);
        due("sold", x.sell(6, 2, 0), 2);
        due("sold ones are none of them", x.service(6, 1, 0), 10);
        due("another kind", x.service(5, 1, 100), -9);
        due("all that are left", x.sell(6, 6, 10), 6);
        due("none is left", x.service(6, 1, 100), -9);
        due("none is left to sell", x.sell(6, 1, 100), -3);
        due("sold", x.count(7), 8);
    }

    private static void serviceOfTwelve() {
        sentence = "n (1 .. 12)";
        PorcelainWorks x = works(0, 1000);
        shape(x, 0, 9, 13);
        for (int round = 0; round < 2; round++) {
            for (int i = 0; i < 12 && 12 * round + i < 13; i++) {
                x.stack(12 * round + i, i);
            }
            x.wood(50);
            x.fire();
        }
        due("12 of 13", x.service(9, 12, 0), 0);
        due("13 of 13", x.service(9, 13, 0), -6);
        due("the last of them", x.matched(9, 12, 0, 11), 11);
        due("none such", x.matched(9, 12, 0, 12), -9);
        due("sold", x.sell(9, 12, 0), 12);
        due("one is left", x.matched(9, 1, 0, 0), 12);
        due("no twelve", x.sell(9, 12, 100), -3);
    }

    private static void chances() {
        sentence = "CHANCE (parts of 1048576) that of m PIECES k or more come whole";
        PorcelainWorks x = new PorcelainWorks();
        due("of none, none or more", x.chance(0, 0, 512), 1048576);
        due("of none, one or more", x.chance(0, 1, 1024), 0);
        due("more than there are", x.chance(5, 6, 1024), 0);
        due("as many as there are", x.chance(5, 5, 1024), 1048576);
        due("w 0: none comes whole", x.chance(200, 1, 0), 0);
        due("w 0: none or more", x.chance(200, 0, 0), 1048576);
        due("w 1023 of one", x.chance(1, 1, 1023), 1047552);
        due("w 1 of one", x.chance(1, 1, 1), 1024);
        sentence = "by 1024, cut";
        // w 1: 1047552 1024; 1046529 2046 1; what is at 1 is (2046 * 1023 + 1046529) by 1024 = 3066.
        due("2 of 3", x.chance(3, 2, 1), 2);
        due("1 of 3", x.chance(3, 1, 1), 3068);
        due("3 of 3 is cut to none", x.chance(3, 3, 1), 0);
        sentence = "MAKE: the least m (200 at most) with which that is q or more";
        due("q 0", x.make(200, 0, 0), 0);
        due("all of one", x.make(1, 1023, 1047552), 1);
        due("one part more", x.make(1, 1023, 1047553), 2);
        due("200 of 200", x.make(200, 1024, 1048576), 200);
        due("200 of 200 with less", x.make(200, 1023, 1), 200);
        due("184941 parts by 199", x.make(1, 1, 184941), 199);
        due("a part more by 200", x.make(1, 1, 184942), 200);
        due("185782 parts by 200", x.make(1, 1, 185782), 200);
        due("a part more by none", x.make(1, 1, 185783), -9);
        due("never", x.make(1, 0, 1), -9);
        due("none or more at once", x.make(0, 0, 1048576), 0);
    }

    // ---- V

    private static void talks() {
        sentence = "each knows all that the other one knew on that DAY ahead of all TALKS of it";
        PorcelainWorks x = new PorcelainWorks();
        x.see(0, 0);
        for (int h = 0; h < 15; h++) {
            due("talk", x.talk(h, h + 1), 1);
        }
        due("one step", x.knows(1), 1);
        due("not two", x.knows(2), 0);
        for (int day = 1; day < 15; day++) {
            x.days(1);
            x.talk(day + 1, day);
            due("on day " + day, x.knows(day + 1), 1);
            due("not further", day == 14 ? 0 : x.knows(day + 2), 0);
        }
        due("safe with one half", x.joined(), -9);
        sentence = "(What is SEEN on a DAY is known ahead of them.)";
        PorcelainWorks y = new PorcelainWorks();
        y.talk(3, 4);
        due("nothing yet", y.knows(4), 0);
        y.see(3, 1);
        due("seen behind the talk of this day", y.knows(4), 2);
        y.days(1);
        y.see(3, 0);
        due("seen on the next day", y.knows(4), 2);
        due("both by itself", y.joined(), 1);
        due("no talk did it", y.leak(), -9);
        y.talk(4, 3);
        due("by another talk of that day", y.knows(4), 3);
    }

    private static void mostTalks() {
        sentence = "-6 there are 60 TALKS";
        PorcelainWorks x = new PorcelainWorks();
        int talks = 0;
        for (int a = 0; a < 16; a++) {
            for (int b = a + 1; b < 16 && talks < 60; b++) {
                due("talk", x.talk(a, b), 1);
                talks++;
                due("talks", x.count(10), talks);
            }
        }
        due("61st", x.talk(14, 15), -6);
        due("they did", x.talk(1, 0), 0);
        due("with itself", x.talk(0, 0), -1);
        x.days(1);
        due("they did not on this day", x.talk(0, 1), -6);
        due("talks", x.count(10), 60);
        PorcelainWorks y = new PorcelainWorks();
        y.see(0, 0);
        for (int t = 0; t < 59; t++) {
            y.talk(2, 3);
            y.days(1);
        }
        y.see(1, 1);
        due("safe", y.leak(), -9);
        due("the last one", y.talk(0, 1), 1);
        due("joined", y.joined(), 59);
        due("the last one", y.leak(), 59);
        due("both of them", y.knows(0) + y.knows(1), 6);
    }

    private static void joinedAndLeak() {
        sentence = "JOINED: a HAND that knows both. SAFE: none is.";
        PorcelainWorks x = new PorcelainWorks();
        x.see(15, 0);
        due("one half", x.joined(), -9);
        x.see(14, 1);
        due("each in another hand", x.joined(), -9);
        due("safe", x.leak(), -9);
        x.talk(14, 15);
        due("day 0", x.joined(), 0);
        due("the only talk", x.leak(), 0);
        x.days(1);
        x.talk(14, 15);
        due("still day 0", x.joined(), 0);
        due("either alone is enough", x.leak(), -9);
        sentence = "Which TALK, left out alone, would leave it SAFE: the first such one";
        PorcelainWorks y = new PorcelainWorks();
        y.see(0, 0);
        y.see(9, 1);
        y.talk(5, 6);
        y.talk(0, 1);
        y.days(1);
        y.talk(1, 2);
        y.days(1);
        y.talk(2, 9);
        due("joined", y.joined(), 2);
        due("the first of the three that carry it", y.leak(), 1);
        y.days(1);
        y.talk(0, 3);
        due("what does not join does not matter", y.leak(), 1);
        y.days(1);
        y.talk(3, 9);
        due("another way round it", y.leak(), -9);
        due("joined", y.joined(), 2);
        PorcelainWorks z = new PorcelainWorks();
        z.see(0, 0);
        z.days(4000);
        z.see(0, 1);
        due("the last day", z.joined(), 4000);
        due("none", z.leak(), -9);
    }

    private static void seenBefore() {
        sentence = "0 if it SAW it before (nothing is new then)";
        PorcelainWorks x = new PorcelainWorks();
        due("sees", x.see(0, 0), 1);
        due("on the same day", x.see(0, 0), 0);
        x.days(1);
        x.talk(0, 1);
        due("on another day", x.see(0, 0), 0);
        due("the other half is new", x.see(0, 1), 1);
        due("by a talk it did not see", x.see(1, 0), 1);
        x.days(4);
        due("before", x.see(0, 1), 0);
        due("joined on the day when it first saw it", x.joined(), 1);
    }

    private static void months() {
        sentence = "each 30 DAYS from when it was made OWED is more by OWED times RATE by 1000 (cut)";
        PorcelainWorks x = new PorcelainWorks();
        x.days(7);
        due("made on day 7", x.debt(1000, 33), 0);
        int[] sums = {1000, 1033, 1067, 1102, 1138, 1175};
        for (int month = 0; month < 6; month++) {
            due("owed behind months", x.owed(0, 30 * month), sums[month]);
            due("a day short of one more", x.owed(0, 30 * month + 29), sums[month]);
        }
        x.days(29);
        due("day 29 of it", x.owed(0, 0), 1000);
        due("tomorrow", x.owed(0, 1), 1033);
        x.days(1);
        due("day 30 of it", x.owed(0, 0), 1033);
        due("pays", x.pay(0, 33), 1000);
        due("29 days on", x.owed(0, 29), 1000);
        due("30 days on: paying does not move the day", x.owed(0, 30), 1033);
        x.days(90);
        due("three months at once", x.owed(0, 0), 1102);
        int[][] cuts = {{999, 1, 999}, {1000, 1, 1001}, {1, 500, 1}, {2, 500, 3}, {3, 500, 4}, {1, 499, 1}, {0, 500, 0}, {1000000, 0, 1000000}};
        for (int[] cut : cuts) {
            PorcelainWorks y = new PorcelainWorks();
            y.debt(cut[0], cut[1]);
            due(cut[0] + " by " + cut[1], y.owed(0, 30), cut[2]);
            y.days(30);
            due(cut[0] + " by " + cut[1], y.owed(0, 0), cut[2]);
        }
    }

    private static void mostOwed() {
        sentence = "2000000000 at most: more is that";
        PorcelainWorks x = new PorcelainWorks();
        x.debt(1000000, 500);
        due("18 months", x.owed(0, 540), 1477891765);
        due("the day ahead", x.owed(0, 569), 1477891765);
        due("19 months would be 2216837647", x.owed(0, 570), 2000000000);
        due("and on", x.owed(0, 4000), 2000000000);
        x.days(570);
        due("grown", x.owed(0, 0), 2000000000);
        due("above what is paid at once", x.pay(0, 1000001), -6);
        due("pays", x.pay(0, 1000000), 1999000000);
        x.days(29);
        due("a day short", x.owed(0, 0), 1999000000);
        x.days(1);
        due("again the most", x.owed(0, 0), 2000000000);
        x.days(3400);
        due("on the last day", x.owed(0, 0), 2000000000);
        due("4000 behind it", x.owed(0, 4000), 2000000000);
        sentence = "PAYING makes it less";
        PorcelainWorks y = new PorcelainWorks();
        y.debt(5, 500);
        due("more than is owed", y.pay(0, 6), -6);
        due("all", y.pay(0, 5), 0);
        due("more than nothing", y.pay(0, 1), -6);
        y.days(300);
        due("nothing grows to nothing", y.owed(0, 4000), 0);
        due("it keeps its number", y.debt(1, 0), 1);
    }

    private static void debtsOfMany() {
        sentence = "DEBTS 0 .. 5";
        PorcelainWorks x = new PorcelainWorks();
        due("none", x.owed(0, 0), -1);
        for (int d = 0; d < 6; d++) {
            due("number", x.debt(1000, 100), d);
            due("none behind it", x.pay(d + 1, 1), -1);
            x.days(1);
        }
        due("7th", x.debt(0, 0), -6);
        x.days(24);
        for (int d = 0; d < 6; d++) {
            due("day 30: only debt 0 is a month old", x.owed(d, 0), d == 0 ? 1100 : 1000);
            due("each on its own day", x.owed(d, d), 1100);
        }
        for (int d = 1; d < 6; d++) {
            due("not ahead of it", x.owed(d, d - 1), 1000);
        }
        for (int d = 0; d < 6; d++) {
            due("paid", x.pay(d, 1000), d == 0 ? 100 : 0);
        }
        due("a paid debt leaves no room", x.debt(0, 0), -6);
        PorcelainWorks y = new PorcelainWorks();
        y.debt(1000, 100);
        y.days(29);
        y.wood(0);
        y.fire();
        due("the two days of a fire count", y.owed(0, 0), 1100);
    }

    private static void counts() {
        sentence = "3 + s PIECES of STATE s, 9 WOOD burned so far, 20 + b POUNDS left of BATCH b";
        PorcelainWorks x = works(0, 1000);
        due("none", x.count(2) + x.count(3) + x.count(4) + x.count(5) + x.count(6) + x.count(7), 0);
        shape(x, 0, 0, 5);
        x.stack(0, 0);
        x.stack(1, 1);
        x.stack(2, 2);
        x.wood(50);
        x.fire();
        x.paste(0, 3, 0);
        x.stack(3, 0);
        x.wood(1);
        x.fire();
        x.sell(0, 1, 0);
        x.paint(1);
        for (int state = 0; state < 5; state++) {
            due("one of each", x.count(3 + state), 1);
            due("how many refusals -1 .. -5", x.count(11 + state), 0);
        }
        int[] states = {4, 2, 1, 3, 0};
        int[] peaks = {500, 500, 500, 10, -9};
        int[] whites = {100, 100, 100, -9, -9};
        for (int i = 0; i < 5; i++) {
            due("state of " + i, x.pieceOf(i, 0), states[i]);
            due("peak of " + i, x.pieceOf(i, 5), peaks[i]);
            due("white of " + i, x.pieceOf(i, 6), whites[i]);
        }
        due("day", x.count(0), 4);
        due("pieces", x.count(2), 5);
        due("wood", x.count(9), 51);
        due("left", x.count(20), 995);
        due("between", x.count(17) + x.count(18) + x.count(19), -27);
    }

    public static void main(String[] args) {
        days();
        firstTraits();
        lowAboveHigh();
        batches();
        ripe();
        ripeByFiring();
        pieces();
        rowHasEnds();
        heatBegins();
        hours();
        lossIsCut();
        tenthTowardsZero();
        allAtOnce();
        peak();
        firingRange();
        firingOfAll();
        shrink();
        woodIsBurned();
        white();
        bestOfMost();
        bestWithFewPlaces();
        bestByWorth();
        bestByPaste();
        bestByMovingOne();
        bestByMovingOnce();
        bestByMovingAll();
        toldStaysTold();
        colourEdges();
        fewestFires();
        paintersCutUp();
        leastDays();
        serviceEdges();
        matchedEdges();
        serviceOfTwelve();
        chances();
        talks();
        mostTalks();
        joinedAndLeak();
        seenBefore();
        months();
        mostOwed();
        debtsOfMany();
        counts();
        System.out.println(wrong == 0 ? "all answers are as due" : wrong + " answers are not as due");
        if (wrong != 0) {
            System.exit(1);
        }
    }
}
