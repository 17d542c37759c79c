/** For each promise: ordinary inputs, the edges that the document names, and wrong inputs. */
public final class PromisesTest {
    private static final int MIN = Integer.MIN_VALUE;
    private static final int MAX = Integer.MAX_VALUE;

    private static int wrong = 0;
    private static int promise = 0;

    private static void due(String call, int got, int want) {
        if (got != want) {
            wrong++;
            System.out.println("promise " + promise + ": " + call + " answered " + got + ", due is " + want);
        }
    }

    /** Counts of refusals -1, -2, -3, -4, -6. */
    private static void refused(PorcelainWorks x, int nobody, int other, int state, int below, int room) {
        due("refusals -1", x.count(11), nobody);
        due("refusals -2", x.count(12), other);
        due("refusals -3", x.count(13), state);
        due("refusals -4", x.count(14), below);
        due("refusals -5", x.count(15), 0);
        due("refusals -6", x.count(16), room);
    }

    /** An object in which paste 0 is ripe at once and bears 0 .. 2000, with a batch of 1000 pounds. */
    private static PorcelainWorks ready() {
        PorcelainWorks x = new PorcelainWorks();
        ripen(x, 0, 0, 2000);
        x.batch(0, 1000);
        return x;
    }

    private static void ripen(PorcelainWorks x, int paste, int low, int high) {
        x.paste(paste, 0, 0);
        x.paste(paste, 2, low);
        x.paste(paste, 3, high);
    }

    private static void pieces(PorcelainWorks x, int batch, int kind, int n) {
        for (int i = 0; i < n; i++) {
            x.piece(batch, kind, 1, 100);
        }
    }

    private static void newObject() {
        promise = 1;
        PorcelainWorks x = new PorcelainWorks();
        for (int what = 0; what <= 16; what++) {
            due("count " + what, x.count(what), 0);
        }
        for (int p = 0; p < 12; p++) {
            due("peak", x.peak(p), 0);
            due("heat", x.heat(p, 0), 0);
            due("gain", x.place(p, 0, 10), 10);
            due("loss", x.place(p, 1, 20), 20);
        }
        for (int p = 0; p < 6; p++) {
            due("ripe", x.paste(p, 0, 30), 30);
            due("shrink", x.paste(p, 1, 120), 120);
            due("low", x.paste(p, 2, 1200), 1200);
            due("high", x.paste(p, 3, 1400), 1400);
        }
        for (int c = 0; c < 12; c++) {
            due("fires", x.fires(1 << c), 1);
            due("fireHeat", x.fireHeat(1 << c, 0), 0);
        }
        for (int p = 0; p < 3; p++) {
            due("skill", x.skill(p, 1), 1);
        }
        for (int h = 0; h < 16; h++) {
            due("knows", x.knows(h), 0);
        }
        due("best", x.best(), 0);
        due("least", x.least(), 0);
        due("clear", x.clear(), 0);
        due("joined", x.joined(), -9);
        due("leak", x.leak(), -9);
        due("service", x.service(0, 1, 100), -9);
        refused(x, 0, 0, 0, 0, 0);
    }

    private static void paste() {
        promise = 2;
        PorcelainWorks x = new PorcelainWorks();
        int[] greatest = {200, 300, 2000, 2000};
        int[] first = {30, 120, 1200, 1400};
        for (int p = 0; p < 6; p++) {
            for (int what = 0; what < 4; what++) {
                due("below", x.paste(p, what, -1), -4);
                due("above", x.paste(p, what, greatest[what] + 1), -6);
                due("greatest", x.paste(p, what, greatest[what]), first[what]);
                due("least", x.paste(p, what, 0), greatest[what]);
                due("own", x.paste(p, what, p + what), 0);
            }
        }
        for (int p = 0; p < 6; p++) {
            for (int what = 0; what < 4; what++) {
                due("kept", x.paste(p, what, 1), p + what);
            }
        }
        PorcelainWorks y = new PorcelainWorks();
        due("no paste", y.paste(6, 4, -1), -1);
        due("no paste", y.paste(-1, 0, 0), -1);
        due("no paste", y.paste(MAX, 0, 0), -1);
        due("no paste", y.paste(MIN, 0, 0), -1);
        due("other", y.paste(0, 4, -1), -2);
        due("other", y.paste(0, -1, MAX), -2);
        due("below", y.paste(0, 0, MIN), -4);
        due("above", y.paste(0, 0, MAX), -6);
        refused(y, 4, 2, 0, 1, 1);
        due("low above high", y.paste(0, 2, 1500), 1200);
        due("high", y.paste(0, 3, 1499), 1400);
    }

    private static void batch() {
        promise = 3;
        PorcelainWorks x = new PorcelainWorks();
        due("least", x.batch(0, 1), 0);
        due("greatest", x.batch(5, 1000), 1);
        due("left", x.count(20), 1);
        due("left", x.count(21), 1000);
        due("no paste", x.batch(6, 0), -1);
        due("no paste", x.batch(-1, 1001), -1);
        due("below", x.batch(0, 0), -4);
        due("below", x.batch(0, MIN), -4);
        due("above", x.batch(0, 1001), -6);
        due("above", x.batch(0, MAX), -6);
        for (int b = 2; b < 20; b++) {
            due("batch", x.batch(b % 6, b), b);
        }
        due("21st", x.batch(0, 1), -6);
        due("21st below", x.batch(0, 0), -4);
        due("21st of no paste", x.batch(6, 1), -1);
        due("batches", x.count(1), 20);
        due("last", x.count(39), 19);
        due("none", x.count(40), -9);
        refused(x, 3, 0, 0, 3, 3);
    }

    private static void days() {
        promise = 4;
        PorcelainWorks x = new PorcelainWorks();
        due("below", x.days(0), -4);
        due("below", x.days(MIN), -4);
        due("above", x.days(4001), -6);
        due("above", x.days(MAX), -6);
        due("day", x.count(0), 0);
        due("one", x.days(1), 1);
        due("above", x.days(4000), -6);
        due("last", x.days(3999), 4000);
        due("no more", x.days(1), -6);
        due("below", x.days(0), -4);
        due("day", x.count(0), 4000);
        refused(x, 0, 0, 0, 3, 4);
    }

    private static void piece() {
        promise = 5;
        PorcelainWorks x = new PorcelainWorks();
        due("no batch", x.piece(0, 0, 1, 10), -1);
        x.batch(3, 50);
        due("no kind", x.piece(0, 10, 0, 0), -1);
        due("no kind", x.piece(0, -1, 1, 10), -1);
        due("no batch", x.piece(1, 0, 1, 10), -1);
        due("no batch", x.piece(-1, 0, 1, 10), -1);
        x.days(29);
        due("not ripe", x.piece(0, 0, 0, 9), -3);
        x.days(1);
        due("below", x.piece(0, 0, 0, 901), -4);
        due("below", x.piece(0, 0, 41, 9), -4);
        due("pounds", x.piece(0, 0, 41, 10), -6);
        due("size", x.piece(0, 0, 1, 901), -6);
        due("most", x.piece(0, 9, 40, 900), 0);
        due("more than is left", x.piece(0, 0, 11, 10), -6);
        due("all that is left", x.piece(0, 0, 10, 10), 1);
        due("none left", x.piece(0, 0, 1, 10), -6);
        due("left", x.count(20), 0);
        due("kind", x.pieceOf(0, 1), 9);
        due("size", x.pieceOf(0, 2), 900);
        due("paste", x.pieceOf(0, 3), 3);
        due("size", x.pieceOf(1, 2), 10);
        refused(x, 5, 0, 1, 2, 4);
        due("riper now", x.paste(3, 0, 31), 30);
        due("by what ripe is now", x.piece(0, 0, 1, 10), -3);

        x.paste(3, 0, 30);
        due("mixed on day 30", x.batch(3, 50), 1);
        x.days(29);
        due("not ripe by its own day", x.piece(1, 0, 1, 10), -3);
        x.days(1);
        due("ripe by its own day", x.piece(1, 0, 1, 10), 2);

        PorcelainWorks y = ready();
        pieces(y, 0, 0, 80);
        due("pieces", y.count(2), 80);
        due("81st", y.piece(0, 0, 1, 10), -6);
        due("81st below", y.piece(0, 0, 0, 10), -4);
        due("pounds are kept", y.count(20), 920);
    }

    private static void place() {
        promise = 6;
        PorcelainWorks x = new PorcelainWorks();
        for (int p = 0; p < 12; p++) {
            due("gain below", x.place(p, 0, 0), -4);
            due("gain above", x.place(p, 0, 41), -6);
            due("gain most", x.place(p, 0, 40), 10);
            due("gain least", x.place(p, 0, 1), 40);
            due("gain", x.place(p, 0, p + 1), 1);
            due("loss below", x.place(p, 1, -1), -4);
            due("loss above", x.place(p, 1, 201), -6);
            due("loss most", x.place(p, 1, 200), 20);
            due("loss least", x.place(p, 1, 0), 200);
            due("loss", x.place(p, 1, p + 2), 0);
        }
        for (int p = 0; p < 12; p++) {
            due("gain kept", x.place(p, 0, 1), p + 1);
            due("loss kept", x.place(p, 1, 1), p + 2);
        }
        PorcelainWorks y = new PorcelainWorks();
        due("no place", y.place(12, 2, -1), -1);
        due("no place", y.place(-1, 0, 1), -1);
        due("other", y.place(0, 2, -1), -2);
        due("other", y.place(0, -1, 1), -2);
        due("below", y.place(0, 0, MIN), -4);
        due("above", y.place(0, 1, MAX), -6);
        refused(y, 2, 2, 0, 1, 1);
    }

    private static void wood() {
        promise = 7;
        PorcelainWorks x = new PorcelainWorks();
        due("below", x.wood(-1), -4);
        due("above", x.wood(51), -6);
        due("none is told", x.count(8), 0);
        for (int h = 1; h <= 48; h++) {
            due("hour", x.wood(h % 2 == 0 ? 0 : 50), h);
        }
        due("49th", x.wood(0), -6);
        due("49th below", x.wood(-1), -4);
        due("hours", x.count(8), 48);
        due("none is burned", x.count(9), 0);
        refused(x, 0, 0, 0, 2, 2);
    }

    private static void clear() {
        promise = 8;
        PorcelainWorks x = new PorcelainWorks();
        due("none", x.clear(), 0);
        x.wood(50);
        x.wood(1);
        due("two", x.clear(), 2);
        due("none", x.clear(), 0);
        due("hours", x.count(8), 0);
        due("none is burned", x.count(9), 0);
        due("peak", x.peak(0), 0);
        due("the first again", x.wood(3), 1);
        due("peak", x.peak(0), 30);
    }

    /** Worked out by hand: gains 10 20 10 .., 10 wood, then none, with a loss of 100 at place 1. */
    private static void peakAndHeat() {
        promise = 9;
        PorcelainWorks x = new PorcelainWorks();
        due("without hours", x.peak(11), 0);
        due("no place", x.peak(12), -1);
        due("no place", x.peak(-1), -1);
        x.place(1, 0, 20);
        x.place(1, 1, 100);
        x.wood(10);
        x.wood(0);
        // Hour 1: 100 200 100 100, then 110 180 110 100. Hour 2: 108 162 108 98 98, then 113 152 112 99 98.
        due("peak 0", x.peak(0), 113);
        due("peak 1", x.peak(1), 180);
        due("peak 2", x.peak(2), 112);
        due("peak 3", x.peak(3), 100);
        due("peak 11", x.peak(11), 100);
        refused(x, 2, 0, 0, 0, 0);

        promise = 10;
        due("before", x.heat(1, 0), 0);
        due("hour 1 at 0", x.heat(0, 1), 110);
        due("hour 1 at 1", x.heat(1, 1), 180);
        due("hour 1 at 2", x.heat(2, 1), 110);
        due("hour 2 at 0", x.heat(0, 2), 113);
        due("hour 2 at 1", x.heat(1, 2), 152);
        due("hour 2 at 2", x.heat(2, 2), 112);
        due("hour 2 at 3", x.heat(3, 2), 99);
        due("hour 2 at 4", x.heat(4, 2), 98);
        due("hour 2 at 11", x.heat(11, 2), 98);
        due("no place", x.heat(12, -1), -1);
        due("no place", x.heat(-1, 3), -1);
        due("below", x.heat(0, -1), -4);
        due("above", x.heat(0, 3), -6);
        due("above", x.heat(0, MAX), -6);
        refused(x, 4, 0, 0, 1, 2);
        due("hours are kept", x.count(8), 2);
        x.clear();
        due("above without hours", x.heat(0, 1), -6);
        heatTowardsZero();
    }

    /** A place that is 5 above each of two: the tenth of -10 is -1, those of 5 are 0. */
    private static void heatTowardsZero() {
        PorcelainWorks x = new PorcelainWorks();
        for (int p = 0; p < 12; p++) {
            x.place(p, 0, 1);
        }
        x.place(0, 0, 6);
        x.place(6, 0, 6);
        x.wood(1);
        due("5 above one", x.heat(0, 1), 6);
        due("5 below one", x.heat(1, 1), 1);
        due("5 above two", x.heat(6, 1), 5);
        due("5 below one", x.heat(7, 1), 1);
        x.place(11, 0, 21);
        due("20 below one", x.heat(10, 1), 3);
        due("20 above one", x.heat(11, 1), 19);
    }

    private static void stack() {
        promise = 11;
        PorcelainWorks x = ready();
        pieces(x, 0, 0, 4);
        due("no piece", x.stack(4, 0), -1);
        due("no piece", x.stack(-1, 0), -1);
        due("no place", x.stack(0, 12), -1);
        due("no place", x.stack(0, -1), -1);
        due("stacked", x.stack(0, 11), 1);
        due("place", x.pieceOf(0, 4), 11);
        due("twice", x.stack(0, 10), -3);
        due("not empty", x.stack(1, 11), -3);
        x.want(2, 1);
        due("told", x.stack(2, 0), -3);
        refused(x, 4, 0, 3, 0, 0);
        x.wood(10);
        x.fire();
        due("fired", x.stack(0, 0), -3);
        due("empty again", x.stack(1, 11), 1);
        due("place", x.pieceOf(0, 4), -9);
        due("no place of a fired one", x.stack(0, 12), -1);

        promise = 12;
        due("piece", x.unstack(11), 1);
        due("not stacked", x.pieceOf(1, 4), -9);
        due("raw still", x.pieceOf(1, 0), 0);
        due("empty", x.unstack(11), -3);
        due("no place", x.unstack(12), -1);
        due("no place", x.unstack(-1), -1);
        due("elsewhere", x.stack(1, 3), 1);
        due("place", x.pieceOf(1, 4), 3);
        due("may be told behind that", x.unstack(3), 1);
        due("told", x.want(1, 5), 2);
    }

    private static void fire() {
        promise = 13;
        PorcelainWorks x = ready();
        ripen(x, 1, 250, 300);
        ripen(x, 2, 200, 249);
        ripen(x, 3, 251, 300);
        ripen(x, 4, 300, 200);
        x.paste(1, 1, 300);
        for (int p = 1; p <= 4; p++) {
            x.batch(p, 100);
        }
        x.piece(1, 0, 1, 99);
        x.piece(2, 0, 1, 99);
        x.piece(3, 0, 1, 99);
        x.piece(4, 0, 1, 99);
        x.piece(0, 0, 1, 10);
        due("no hours", x.fire(), -3);
        for (int p = 0; p < 4; p++) {
            x.stack(p, p);
        }
        due("no hours", x.fire(), -3);
        x.wood(20);
        x.wood(5);
        // 200, then 200 + 50 - 4 = 246: the peak. A third hour without wood: 246 - 4 = 242.
        x.wood(0);
        x.clear();
        x.wood(25);
        x.wood(0);
        due("one is fired", x.fire(), 1);
        due("day", x.count(0), 2);
        due("hours", x.count(8), 0);
        due("wood", x.count(9), 25);
        due("at low", x.pieceOf(0, 0), 1);
        due("size less 29", x.pieceOf(0, 2), 70);
        due("above high", x.pieceOf(1, 0), 3);
        due("size stays", x.pieceOf(1, 2), 99);
        due("peak of a broken one", x.pieceOf(1, 5), 250);
        due("below low", x.pieceOf(2, 0), 3);
        due("low above high", x.pieceOf(3, 0), 3);
        due("not stacked", x.pieceOf(4, 0), 0);
        due("no peak", x.pieceOf(4, 5), -9);
        for (int p = 0; p < 12; p++) {
            due("empty", x.unstack(p), -3);
        }
        x.wood(3);
        due("none in it", x.fire(), 0);
        due("day", x.count(0), 4);
        due("wood so far", x.count(9), 28);
        x.days(3994);
        x.wood(0);
        due("till the last day", x.fire(), 0);
        due("day", x.count(0), 4000);
        due("no hours, no days", x.fire(), -3);
        x.wood(0);
        due("no days", x.fire(), -6);
        due("hours stay", x.count(8), 1);
        PorcelainWorks y = new PorcelainWorks();
        y.days(3999);
        y.wood(1);
        due("one day", y.fire(), -6);
        due("not burned", y.count(9), 0);
    }

    private static void want() {
        promise = 14;
        PorcelainWorks x = ready();
        pieces(x, 0, 0, 11);
        due("no piece", x.want(11, 0), -1);
        due("no piece", x.want(-1, 1), -1);
        due("below", x.want(0, 0), -4);
        due("above", x.want(0, 1000), -6);
        due("not told yet", x.best(), 0);
        due("least", x.want(0, 1), 1);
        due("greatest", x.want(1, 999), 2);
        due("told", x.want(0, 0), -3);
        x.stack(2, 0);
        due("stacked", x.want(2, 1000), -3);
        for (int i = 3; i < 9; i++) {
            due("told", x.want(i, 10), i);
        }
        due("9th", x.want(9, 10), -6);
        due("9th below", x.want(9, 0), -4);
        x.wood(1);
        x.fire();
        due("not raw", x.want(2, 10), -3);
        refused(x, 2, 0, 3, 2, 2);
    }

    private static void bestStacking() {
        promise = 15;
        PorcelainWorks x = new PorcelainWorks();
        // With 10 wood: 104 at 0, 132 at 1, 108 at 2, 132 at 3, 104 at 4, 100 elsewhere.
        x.place(1, 0, 14);
        x.place(3, 0, 14);
        ripen(x, 0, 130, 140);
        ripen(x, 1, 101, 140);
        ripen(x, 2, 0, 99);
        for (int p = 0; p < 3; p++) {
            x.batch(p, 100);
        }
        x.piece(0, 0, 1, 10);
        x.piece(0, 0, 1, 10);
        x.piece(0, 0, 1, 10);
        x.piece(1, 0, 1, 10);
        x.piece(2, 0, 1, 10);
        x.want(3, 5);
        x.want(0, 7);
        x.want(1, 7);
        x.want(2, 7);
        x.want(4, 999);
        due("without hours all peaks are 0", x.best(), 999);
        due("place 0", x.bestPlace(4), 0);
        x.wood(10);
        due("peak 0", x.peak(0), 104);
        due("peak 1", x.peak(1), 132);
        due("peak 2", x.peak(2), 108);
        due("best", x.best(), 19);

        promise = 16;
        due("the first has the least", x.bestPlace(0), 0);
        due("second", x.bestPlace(1), 1);
        due("third", x.bestPlace(2), 3);
        due("fourth", x.bestPlace(3), -9);
        due("would not be fired", x.bestPlace(4), -9);
        due("none such", x.bestPlace(5), -1);
        due("none such", x.bestPlace(-1), -1);
        refused(x, 2, 0, 0, 0, 0);

        promise = 17;
        due("three", x.lay(), 3);
        due("place", x.pieceOf(3, 4), 0);
        due("place", x.pieceOf(0, 4), 1);
        due("place", x.pieceOf(1, 4), 3);
        due("none", x.pieceOf(2, 4), -9);
        due("none", x.pieceOf(4, 4), -9);
        due("none is told", x.best(), 0);
        due("none is told", x.bestPlace(0), -1);
        due("nothing to lay", x.lay(), 0);
        due("the first again", x.want(2, 3), 1);
        due("its places are not empty", x.best(), 0);
        due("no place", x.bestPlace(0), -9);
        x.unstack(3);
        due("one is empty", x.bestPlace(0), 3);
        due("its worth", x.best(), 3);
        due("fired", x.fire(), 2);
        due("still told", x.stack(2, 3), -3);
    }

    /** The first piece takes a place that another one needs, if others are worth the same. */
    private static void bestStackingOfSeveral() {
        promise = 16;
        PorcelainWorks x = new PorcelainWorks();
        x.place(1, 0, 20);
        x.place(2, 0, 30);
        x.wood(10);
        due("peak 0", x.peak(0), 110);
        due("peak 1", x.peak(1), 200);
        due("peak 2", x.peak(2), 270);
        ripen(x, 0, 105, 205);
        ripen(x, 1, 105, 115);
        ripen(x, 2, 195, 205);
        for (int p = 0; p < 3; p++) {
            x.batch(p, 100);
        }
        x.piece(0, 0, 1, 10);
        x.piece(1, 0, 1, 10);
        x.piece(2, 0, 1, 10);
        x.place(3, 0, 40);
        due("peak 3 fits none", x.peak(3), 360);
        due("peak 4 fits none", x.peak(4), 130);
        x.place(4, 0, 6);
        due("peak 4 fits none", x.peak(4), 98);
        x.want(0, 4);
        x.want(1, 6);
        x.want(2, 6);
        due("two of three", x.best(), 12);
        due("worth less: none", x.bestPlace(0), -9);
        x.lay();
        x.unstack(0);
        x.unstack(1);
        x.want(0, 6);
        x.want(1, 6);
        x.want(2, 6);
        due("two of three alike", x.best(), 12);
        due("the least place", x.bestPlace(0), 0);
        due("so that none is left", x.bestPlace(1), -9);
        due("the other one", x.bestPlace(2), 1);
        x.lay();
        x.unstack(0);
        x.unstack(1);
        x.want(1, 6);
        x.want(0, 5);
        x.want(2, 7);
        due("told in another order", x.best(), 13);
        due("first", x.bestPlace(0), 0);
        due("second", x.bestPlace(1), -9);
        due("third", x.bestPlace(2), 1);
        due("laid at once", x.lay(), 2);
        bestStackingByMoves();
    }

    /** The worthiest must move on, so that the next one can, so that the last one has its place. */
    private static void bestStackingByMoves() {
        PorcelainWorks x = new PorcelainWorks();
        int[] gains = {10, 20, 30, 40, 6};
        int[] peaks = {110, 200, 300};
        for (int p = 0; p < 5; p++) {
            x.place(p, 0, gains[p]);
        }
        ripen(x, 0, 105, 205);
        ripen(x, 1, 105, 115);
        ripen(x, 2, 195, 305);
        for (int p = 0; p < 3; p++) {
            x.batch(p, 100);
            x.piece(p, 0, 1, 10);
        }
        x.want(2, 9);
        x.want(0, 8);
        x.want(1, 7);
        x.wood(10);
        due("all three, without asking for places", x.lay(), 3);
        due("peak", x.peak(4), 98);
        due("moved twice", x.pieceOf(2, 4), 2);
        due("moved once", x.pieceOf(0, 4), 1);
        due("its only place", x.pieceOf(1, 4), 0);
        for (int p = 0; p < 3; p++) {
            due("peak", x.peak(p), peaks[p]);
            x.unstack(p);
        }
        x.want(2, 9);
        x.want(0, 8);
        x.want(1, 7);
        due("all three", x.best(), 24);
    }

    private static void colour() {
        promise = 18;
        PorcelainWorks x = new PorcelainWorks();
        due("greatest", x.colour(0, 1000, 1000), 1);
        due("least", x.colour(11, 0, 0), 1);
        due("no colour", x.colour(12, -1, 2000), -1);
        due("no colour", x.colour(-1, 0, 0), -1);
        due("from below", x.colour(0, -1, 5), -4);
        due("from below, to above", x.colour(0, -1, 1001), -4);
        due("to below from", x.colour(0, 5, 4), -4);
        due("to below from above", x.colour(0, 1002, 1001), -4);
        due("to above", x.colour(0, 5, 1001), -6);
        due("both above", x.colour(0, 1001, 1001), -6);
        due("kept", x.fireHeat(1, 0), 1000);
        refused(x, 2, 0, 0, 4, 2);
    }

    private static void fires() {
        promise = 19;
        PorcelainWorks x = new PorcelainWorks();
        x.colour(0, 100, 300);
        x.colour(1, 200, 400);
        x.colour(2, 350, 500);
        x.colour(3, 450, 600);
        x.colour(4, 301, 349);
        due("empty", x.fires(0), 0);
        due("one", x.fires(1), 1);
        due("0 and 1", x.fires(3), 1);
        due("0 and 2", x.fires(5), 2);
        due("all but 4", x.fires(15), 2);
        due("all", x.fires(31), 3);
        due("others", x.fires(4096), -1);
        due("others", x.fires(4097), -1);
        due("others", x.fires(-1), -1);
        due("others", x.fires(MIN), -1);
        due("all colours", x.fires(4095), 4);

        promise = 20;
        due("hottest", x.fireHeat(31, 0), 450);
        due("middle", x.fireHeat(31, 1), 301);
        due("last", x.fireHeat(31, 2), 100);
        due("hottest", x.fireHeat(15, 0), 450);
        due("the least that fixes 0 and 1", x.fireHeat(15, 1), 200);
        due("none such", x.fireHeat(15, 2), -1);
        due("none such", x.fireHeat(15, -1), -1);
        due("none such", x.fireHeat(0, 0), -1);
        due("others", x.fireHeat(4096, 0), -1);
        due("0 .. 0", x.fireHeat(4095, 3), 0);
        refused(x, 8, 0, 0, 0, 0);
        for (int c = 0; c < 12; c++) {
            x.colour(c, c * 10, c * 10);
        }
        due("each its own", x.fires(4095), 12);
        due("coolest last", x.fireHeat(4095, 11), 0);
        due("hottest first", x.fireHeat(4095, 0), 110);
        x.colour(0, 50, 60);
        x.colour(1, 60, 70);
        due("they touch", x.fires(3), 1);
        due("where they touch", x.fireHeat(3, 0), 60);
    }

    private static void skill() {
        promise = 21;
        PorcelainWorks x = new PorcelainWorks();
        due("was 1", x.skill(2, 20), 1);
        due("was 20", x.skill(2, 1), 20);
        due("no painter", x.skill(3, 0), -1);
        due("no painter", x.skill(-1, 1), -1);
        due("below", x.skill(0, 0), -4);
        due("above", x.skill(0, 21), -6);
        due("kept", x.skill(0, 2), 1);
        refused(x, 2, 0, 0, 1, 1);
    }

    private static void jobs() {
        promise = 22;
        PorcelainWorks x = new PorcelainWorks();
        due("below", x.job(0), -4);
        due("above", x.job(501), -6);
        due("least", x.job(1), 0);
        due("greatest", x.job(500), 1);
        for (int j = 2; j < 8; j++) {
            due("job", x.job(100), j);
        }
        due("9th", x.job(1), -6);
        due("9th below", x.job(0), -4);
        refused(x, 0, 0, 0, 2, 2);

        promise = 23;
        due("500 and one more for nobody", x.least(), 500);
        x.skill(1, 3);
        // Painter 1 has the 500 (167 days) and two of the 100 (34 each); the others have two of them each.
        due("by skill", x.least(), 235);
        due("a painter", x.painter(1), 1);

        PorcelainWorks y = new PorcelainWorks();
        due("without jobs", y.least(), 0);
        y.skill(0, 3);
        y.job(7);
        due("cut up", y.least(), 3);
        y.skill(0, 7);
        due("even", y.least(), 1);
        y.skill(1, 7);
        y.job(7);
        y.job(7);
        due("two at one", y.least(), 2);

        promise = 24;
        due("first", y.painter(0), 0);
        due("second", y.painter(1), 0);
        due("third", y.painter(2), 1);
        due("none such", y.painter(3), -9);
        due("none such", y.painter(-1), -9);
        refused(y, 0, 0, 0, 0, 0);
        y.skill(2, 20);
        due("without asking for days", y.painter(0), 0);
        due("changed skill", y.painter(1), 1);
        due("changed skill", y.painter(2), 2);
        y.skill(2, 1);
        y.skill(1, 1);
        due("changed skill", y.least(), 3);
        due("all at one", y.painter(2), 0);
    }

    private static void paint() {
        promise = 25;
        PorcelainWorks x = ready();
        pieces(x, 0, 0, 2);
        x.paste(0, 3, 100);
        x.batch(0, 10);
        due("no piece", x.paint(2), -1);
        due("no piece", x.paint(-1), -1);
        due("raw", x.paint(0), -3);
        x.stack(0, 0);
        x.wood(10);
        x.fire();
        x.stack(1, 0);
        x.wood(50);
        x.fire();
        due("fired", x.paint(0), 1);
        due("state", x.pieceOf(0, 0), 2);
        due("painted", x.paint(0), -3);
        due("broken", x.paint(1), -3);
        x.sell(0, 1, 0);
        due("sold", x.paint(0), -3);
        refused(x, 2, 0, 4, 0, 0);
    }

    /** Fires pieces 0 .. 7 with whites 100 90 80 100 90 70 90 50: kind 1 but for piece 3, of kind 2. */
    private static PorcelainWorks whites() {
        PorcelainWorks x = new PorcelainWorks();
        int[] highs = {500, 600, 700, 800, 1000};
        int[] batches = {0, 1, 2, 0, 1, 3, 1, 4};
        for (int p = 0; p < 5; p++) {
            ripen(x, p, 0, highs[p]);
            x.batch(p, 100);
        }
        for (int i = 0; i < 8; i++) {
            x.piece(batches[i], i == 3 ? 2 : 1, 1, 100);
            x.stack(i, i);
        }
        x.wood(25);
        due("all are fired", x.fire(), 8);
        return x;
    }

    private static void services() {
        promise = 26;
        PorcelainWorks x = whites();
        due("the whitest", x.service(1, 1, 0), 0);
        due("two alike", x.service(1, 2, 0), 20);
        due("two within 9", x.service(1, 2, 9), 20);
        due("two within 10", x.service(1, 2, 10), 10);
        due("three alike", x.service(1, 3, 0), 30);
        due("four alike", x.service(1, 4, 0), -9);
        due("four within 10", x.service(1, 4, 10), 30);
        due("five within 10", x.service(1, 5, 10), -9);
        due("five within 20", x.service(1, 5, 20), 50);
        due("all", x.service(1, 7, 50), 130);
        due("all but within 49", x.service(1, 7, 49), -9);
        due("too many", x.service(1, 8, 100), -9);
        due("another kind", x.service(2, 1, 0), 0);
        due("no pieces", x.service(3, 1, 100), -9);
        due("most", x.service(1, 12, 100), -9);
        due("no kind", x.service(10, 0, -1), -1);
        due("no kind", x.service(-1, 1, 0), -1);
        due("n below", x.service(1, 0, 101), -4);
        due("t below", x.service(1, 13, -1), -4);
        due("n above", x.service(1, 13, 0), -6);
        due("t above", x.service(1, 1, 101), -6);
        refused(x, 2, 0, 0, 2, 2);

        promise = 27;
        due("lower numbers", x.matched(1, 2, 0, 0), 1);
        due("lower numbers", x.matched(1, 2, 0, 1), 4);
        due("by numbers", x.matched(1, 5, 20, 0), 0);
        due("by numbers", x.matched(1, 5, 20, 1), 1);
        due("by numbers", x.matched(1, 5, 20, 2), 2);
        due("by numbers", x.matched(1, 5, 20, 3), 4);
        due("by numbers", x.matched(1, 5, 20, 4), 6);
        due("none such", x.matched(1, 5, 20, 5), -9);
        due("none such", x.matched(1, 5, 20, -1), -9);
        due("no service", x.matched(1, 8, 0, 0), -9);
        due("no kind", x.matched(10, 0, 0, 0), -1);
        due("below", x.matched(0, 0, 101, 0), -4);
        due("below", x.matched(0, 1, -1, -1), -4);
        due("above", x.matched(0, 13, 0, -1), -6);
        due("above", x.matched(0, 1, 101, 0), -6);
        refused(x, 3, 0, 0, 4, 4);

        promise = 28;
        x.paint(4);
        due("also painted", x.service(1, 3, 0), 30);
        due("no service", x.sell(1, 4, 0), -3);
        due("sold", x.sell(1, 3, 0), 3);
        due("state", x.pieceOf(1, 0), 4);
        due("state", x.pieceOf(4, 0), 4);
        due("state", x.pieceOf(6, 0), 4);
        due("state", x.pieceOf(0, 0), 1);
        due("white of a sold one", x.pieceOf(4, 6), 90);
        due("what is left", x.service(1, 2, 20), 20);
        due("how many sold", x.count(7), 3);
        due("no kind", x.sell(10, 0, 0), -1);
        due("below", x.sell(1, 0, 101), -4);
        due("above", x.sell(1, 13, 0), -6);
        due("above", x.sell(1, 1, 101), -6);
        refused(x, 4, 0, 1, 5, 6);
    }

    private static void chance() {
        promise = 29;
        PorcelainWorks x = new PorcelainWorks();
        due("of none, none", x.chance(0, 0, 0), 1048576);
        due("of none, one", x.chance(0, 1, 1024), 0);
        due("half", x.chance(1, 1, 512), 524288);
        due("two of two", x.chance(2, 2, 512), 262144);
        due("one of two", x.chance(2, 1, 512), 786432);
        due("all", x.chance(200, 200, 1024), 1048576);
        due("never", x.chance(200, 1, 0), 0);
        // w 1: 1047552 and 1024; then 1046529, 2046, 1; then, cut, 1045506, 3066, 2 and 0.
        due("cut in each row", x.chance(2, 0, 1), 1048576);
        due("cut in each row", x.chance(3, 0, 1), 1048574);
        due("cut in each row", x.chance(3, 1, 1), 3068);
        due("cut in each row", x.chance(3, 2, 1), 2);
        due("cut in each row", x.chance(3, 3, 1), 0);
        due("below", x.chance(-1, 201, 1025), -4);
        due("below", x.chance(201, -1, 0), -4);
        due("below", x.chance(0, 0, -1), -4);
        due("above", x.chance(201, 0, 0), -6);
        due("above", x.chance(0, 201, 0), -6);
        due("above", x.chance(0, 0, 1025), -6);
        refused(x, 0, 0, 0, 3, 3);

        promise = 30;
        due("none", x.make(0, 0, 1048576), 0);
        due("no parts", x.make(200, 0, 0), 0);
        due("one half", x.make(1, 512, 524288), 1);
        due("a bit more", x.make(1, 512, 524289), 2);
        due("all whole", x.make(200, 1024, 1048576), 200);
        due("never", x.make(200, 1023, 1048576), -9);
        due("never", x.make(1, 0, 1), -9);
        due("below", x.make(-1, 1025, 1048577), -4);
        due("below", x.make(0, -1, 0), -4);
        due("below", x.make(0, 0, -1), -4);
        due("above", x.make(201, 0, 0), -6);
        due("above", x.make(0, 1025, 0), -6);
        due("above", x.make(0, 0, 1048577), -6);
        refused(x, 0, 0, 0, 6, 6);
    }

    private static void secrets() {
        promise = 31;
        PorcelainWorks x = new PorcelainWorks();
        due("sees", x.see(0, 0), 1);
        due("before", x.see(0, 0), 0);
        due("no hand", x.see(16, 0), -1);
        due("no hand", x.see(-1, 0), -1);
        due("no half", x.see(0, 2), -1);
        due("no half", x.see(0, -1), -1);
        refused(x, 4, 0, 0, 0, 0);
        x.talk(0, 1);
        due("known by a talk, not seen", x.see(1, 0), 1);
        x.days(1);
        due("on another day", x.see(1, 0), 0);
        PorcelainWorks y = new PorcelainWorks();
        for (int i = 0; i < 32; i++) {
            due("all hands see all", y.see(i / 2, i % 2), 1);
        }
        for (int i = 0; i < 32; i++) {
            due("before", y.see(i / 2, i % 2), 0);
            due("both", y.knows(i / 2), 3);
        }

        promise = 32;
        due("talk", x.talk(1, 2), 1);
        due("again", x.talk(1, 2), 0);
        due("turned", x.talk(2, 1), 0);
        due("with another one", y.talk(1, 2) + y.talk(1, 3) + y.talk(4, 2), 3);
        due("with itself", x.talk(3, 3), -1);
        due("no hand", x.talk(16, 0), -1);
        due("no hand", x.talk(0, 16), -1);
        due("no hand", x.talk(-1, 0), -1);
        due("no hand", x.talk(0, -1), -1);
        due("talks", x.count(10), 2);
        x.days(1);
        due("on another day", x.talk(1, 2), 1);
        for (int t = 3; t < 60; t++) {
            x.days(1);
            due("talk", x.talk(4, 5), 1);
        }
        due("did", x.talk(4, 5), 0);
        due("61st", x.talk(6, 7), -6);
        due("61st with itself", x.talk(6, 6), -1);
        due("talks", x.count(10), 60);
        refused(x, 10, 0, 0, 0, 1);

        promise = 33;
        due("sees", x.knows(0), 1);
        due("told on day 0", x.knows(1), 1);
        due("told on day 1", x.knows(2), 1);
        due("nothing", x.knows(4), 0);
        due("no hand", x.knows(16), -1);
        due("no hand", x.knows(-1), -1);
        x.see(4, 1);
        due("half 1", x.knows(4), 2);
        due("on the day of the last talk", x.knows(5), 2);
        x.see(4, 0);
        due("both", x.knows(4), 3);
    }

    private static void joined() {
        promise = 34;
        PorcelainWorks x = new PorcelainWorks();
        x.see(0, 0);
        x.see(3, 1);
        x.talk(0, 1);
        x.talk(1, 2);
        x.talk(2, 3);
        due("no more than one step a day", x.knows(2), 2);
        due("not yet", x.joined(), -9);
        due("safe", x.leak(), -9);
        x.days(2);
        x.talk(2, 1);
        due("day 2", x.joined(), 2);
        due("hand 1", x.knows(1), 3);
        due("hand 2", x.knows(2), 3);
        x.days(5);
        due("still day 2", x.joined(), 2);

        promise = 35;
        due("without the first talk", x.leak(), 0);
        x.talk(0, 3);
        due("without talk 0 they would join on day 7", x.leak(), -9);

        PorcelainWorks y = new PorcelainWorks();
        y.talk(5, 6);
        y.see(1, 0);
        y.see(2, 1);
        y.days(1);
        y.talk(1, 2);
        due("the one talk that matters", y.leak(), 1);
        y.see(1, 1);
        due("one saw both", y.leak(), -9);
        due("on day 1", y.joined(), 1);

        promise = 34;
        PorcelainWorks z = new PorcelainWorks();
        z.days(9);
        z.see(7, 1);
        z.see(7, 0);
        due("seen without talks", z.joined(), 9);
        PorcelainWorks w = new PorcelainWorks();
        w.see(0, 0);
        w.days(1);
        w.talk(0, 1);
        w.days(1);
        w.see(1, 1);
        due("seen behind the talk", w.joined(), 2);
        due("known by both", w.knows(0), 1);
    }

    private static void debts() {
        promise = 36;
        PorcelainWorks x = new PorcelainWorks();
        due("owed below", x.debt(-1, 501), -4);
        due("rate below", x.debt(1000001, -1), -4);
        due("owed above", x.debt(1000001, 0), -6);
        due("rate above", x.debt(0, 501), -6);
        due("least", x.debt(0, 0), 0);
        due("greatest", x.debt(1000000, 500), 1);
        due("debt", x.debt(1001, 1), 2);
        x.days(10);
        due("debt", x.debt(999, 1), 3);
        due("debt", x.debt(100, 100), 4);
        due("debt", x.debt(1, 0), 5);
        due("7th", x.debt(1, 1), -6);
        due("7th below", x.debt(-1, 1), -4);
        refused(x, 0, 0, 0, 3, 3);

        promise = 37;
        due("no debt", x.pay(6, 0), -1);
        due("no debt", x.pay(-1, 1), -1);
        due("below", x.pay(4, 0), -4);
        due("more than is owed", x.pay(4, 101), -6);
        due("above", x.pay(1, 1000001), -6);
        due("some", x.pay(4, 99), 1);
        due("all", x.pay(4, 1), 0);
        due("nothing is owed", x.pay(0, 1), -6);
        x.days(20);
        due("grown, then paid", x.pay(1, 1000000), 500000);
        refused(x, 2, 0, 0, 4, 6);

        promise = 38;
        due("now", x.owed(1, 0), 500000);
        due("a month", x.owed(1, 30), 750000);
        due("not yet", x.owed(1, 29), 500000);
        due("cut", x.owed(2, 0), 1002);
        due("cut", x.owed(3, 10), 999);
        due("its own months", x.owed(3, 9), 999);
        due("most", x.owed(1, 4000), 2000000000);
        due("no rate", x.owed(5, 4000), 1);
        due("nothing", x.owed(0, 4000), 0);
        due("no debt", x.owed(6, -1), -1);
        due("no debt", x.owed(-1, 0), -1);
        due("below", x.owed(0, -1), -4);
        due("above", x.owed(0, 4001), -6);
        due("asking changes nothing", x.owed(1, 0), 500000);
        x.days(29);
        x.wood(1);
        due("the day of the month is passed over by a fire", x.fire(), 0);
        due("grown", x.owed(1, 0), 750000);
        x.days(3939);
        due("at the last day", x.owed(1, 0), 2000000000);
        due("and 4000 behind it", x.owed(1, 4000), 2000000000);
        due("paid of the most", x.pay(1, 1), 1999999999);
    }

    private static void pieceOf() {
        promise = 39;
        PorcelainWorks x = ready();
        ripen(x, 5, 201, 300);
        x.batch(5, 10);
        x.piece(0, 3, 1, 200);
        x.piece(1, 9, 1, 100);
        int[] raw = {0, 3, 200, 0, -9, -9, -9};
        for (int what = 0; what < 7; what++) {
            due("raw " + what, x.pieceOf(0, what), raw[what]);
        }
        x.stack(0, 7);
        x.stack(1, 8);
        due("place", x.pieceOf(0, 4), 7);
        x.wood(20);
        x.fire();
        int[] fired = {1, 3, 176, 0, -9, 200, 0};
        int[] broken = {3, 9, 100, 5, -9, 200, -9};
        for (int what = 0; what < 7; what++) {
            due("fired " + what, x.pieceOf(0, what), fired[what]);
            due("broken " + what, x.pieceOf(1, what), broken[what]);
        }
        due("no piece", x.pieceOf(2, 7), -1);
        due("no piece", x.pieceOf(-1, 0), -1);
        due("other", x.pieceOf(0, 7), -2);
        due("other", x.pieceOf(0, -1), -2);
        refused(x, 2, 2, 0, 0, 0);
    }

    /** What WHITE a piece has that comes out of a PEAK of 200. */
    private static int whiteAt200(int low, int high) {
        PorcelainWorks x = new PorcelainWorks();
        ripen(x, 0, low, high);
        x.batch(0, 1);
        pieces(x, 0, 0, 1);
        x.stack(0, 0);
        x.wood(20);
        x.fire();
        return x.pieceOf(0, 6);
    }

    private static void whiteEdges() {
        promise = 39;
        due("the middle", whiteAt200(0, 400), 100);
        due("the middle is cut", whiteAt200(0, 401), 100);
        due("100 below the middle of 300, which is cut", whiteAt200(0, 601), 80);
        due("5 above the middle of 195, which is cut", whiteAt200(0, 391), 99);
        due("4 above the middle of 196, which is cut", whiteAt200(0, 393), 100);
        due("4 below the middle of 204", whiteAt200(200, 208), 100);
        due("5 below the middle of 205", whiteAt200(200, 210), 99);
        due("100 above the middle of 100", whiteAt200(0, 200), 80);
        due("499 below the middle of 699", whiteAt200(0, 1398), 1);
        due("500 below the middle of 700", whiteAt200(0, 1400), 0);
        due("0 at least", whiteAt200(200, 2000), 0);
        due("broken", whiteAt200(201, 300), -9);
    }

    /** WHITE goes by LOW and HIGH as they were at the firing, whatever the paste becomes later. */
    private static void whiteStays() {
        promise = 39;
        PorcelainWorks x = new PorcelainWorks();
        ripen(x, 0, 0, 600);
        x.batch(0, 100);
        pieces(x, 0, 1, 4);
        x.stack(0, 0);
        x.wood(20);
        x.paste(0, 3, 500);
        due("fired", x.fire(), 1);
        due("by HIGH at the firing, not at the stacking", x.pieceOf(0, 6), 90);
        x.paste(0, 2, 150);
        due("LOW changed behind it", x.pieceOf(0, 6), 90);
        x.paste(0, 3, 250);
        due("HIGH changed behind it", x.pieceOf(0, 6), 90);
        due("state", x.pieceOf(0, 0), 1);
        x.paste(0, 1, 300);
        due("SHRINK changed behind it", x.pieceOf(0, 2), 88);
        x.stack(1, 0);
        x.wood(20);
        due("fired", x.fire(), 1);
        due("a later one by what LOW and HIGH are then", x.pieceOf(1, 6), 100);
        due("the one ahead", x.pieceOf(0, 6), 90);
        x.paste(0, 2, 1000);
        x.paste(0, 3, 0);
        x.paint(0);
        due("painted", x.pieceOf(0, 6), 90);
        due("raw", x.pieceOf(2, 6), -9);
        x.stack(2, 0);
        x.wood(20);
        due("none bears it", x.fire(), 0);
        ripen(x, 0, 0, 400);
        due("broken stays broken", x.pieceOf(2, 0), 3);
        due("broken has none", x.pieceOf(2, 6), -9);

        promise = 26;
        due("the whiter one", x.service(1, 1, 0), 0);
        due("not alike", x.service(1, 2, 9), -9);
        due("within 10", x.service(1, 2, 10), 10);
        promise = 27;
        due("the whiter one", x.matched(1, 1, 0, 0), 1);
        promise = 28;
        due("not alike", x.sell(1, 2, 9), -3);
        due("the whiter one is sold", x.sell(1, 1, 0), 1);
        due("state", x.pieceOf(0, 0), 2);
        due("state", x.pieceOf(1, 0), 4);
        ripen(x, 0, 0, 2000);
        due("white of a sold one stays", x.pieceOf(1, 6), 100);
        due("what is left", x.service(1, 1, 0), 10);
    }

    private static void count() {
        promise = 40;
        PorcelainWorks x = whites();
        x.paint(0);
        x.paint(1);
        x.sell(2, 1, 0);
        pieces(x, 0, 0, 3);
        x.wood(7);
        x.talk(1, 2);
        int[] want = {2, 5, 11, 3, 5, 2, 0, 1, 1, 25, 1, 0, 0, 0, 0, 0, 0};
        for (int what = 0; what < want.length; what++) {
            due("count " + what, x.count(what), want[what]);
        }
        int[] left = {95, 97, 99, 99, 99};
        for (int b = 0; b < left.length; b++) {
            due("left of " + b, x.count(20 + b), left[b]);
        }
        int[] others = {-1, 17, 18, 19, 25, 39, 40, MIN, MAX};
        for (int what : others) {
            due("another what", x.count(what), -9);
        }
        refused(x, 0, 0, 0, 0, 0);
    }

    public static void main(String[] args) {
        newObject();
        paste();
        batch();
        days();
        piece();
        place();
        wood();
        clear();
        peakAndHeat();
        stack();
        fire();
        want();
        bestStacking();
        bestStackingOfSeveral();
        colour();
        fires();
        skill();
        jobs();
        paint();
        services();
        chance();
        secrets();
        joined();
        debts();
        pieceOf();
        whiteEdges();
        whiteStays();
        count();
        System.out.println(wrong == 0 ? "all answers are as due" : wrong + " answers are not as due");
        if (wrong != 0) {
            System.exit(1);
        }
    }
}
