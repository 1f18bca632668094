/** Promises 7 to 12: addPlank, addKnot, plank, find, addFrame, frames, and how pieces are cut of planks. */
public final class WoodTest {
    public static void main(String[] args) {
        addPlank();
        tooManyPlanks();
        addKnot();
        plank();
        clearPlaces();
        find();
        cutInTheMiddle();
        cutAheadOfKnots();
        cutWithWaste();
        cutBesideTheLimit();
        cutWithoutRoomForPlanks();
        numbersBehindCuts();
        emptyPlanksAreNotUsedAgain();
        cutBySeveralSlips();
        whoWaitsForWoodHasNoTurn();
        onlyLengthAndNumberCount();
        cutKeepsWetness();
        wetnessOfPlanks();
        frames();
        Check.end("WoodTest");
    }

    private static void addPlank() {
        BendYard x = new BendYard();
        Check.same("least plank", 0, x.addPlank(0, 10, 0));
        Check.same("greatest plank", 1, x.addPlank(3, 300, 100));
        Yards.plankIs(x, 0, 0, 10, 0, 0, 10);
        Yards.plankIs(x, 1, 3, 300, 100, 0, 300);
        Check.refuses(x, "wood -1", Texts.ARGUMENT, () -> x.addPlank(-1, 10, 0));
        Check.refuses(x, "wood 4", Texts.ARGUMENT, () -> x.addPlank(4, 10, 0));
        Check.refuses(x, "length 9", Texts.ARGUMENT, () -> x.addPlank(0, 9, 0));
        Check.refuses(x, "length 301", Texts.ARGUMENT, () -> x.addPlank(0, 301, 0));
        Check.refuses(x, "wetness -1", Texts.ARGUMENT, () -> x.addPlank(0, 10, -1));
        Check.refuses(x, "wetness 101", Texts.ARGUMENT, () -> x.addPlank(0, 10, 101));
        Check.same("planks", 2, x.count(1));
        Check.same("length of all", 310, x.count(8));
    }

    private static void tooManyPlanks() {
        BendYard x = new BendYard();
        for (int i = 0; i < 60; i++) {
            Check.same("plank", i, x.addPlank(i % 4, 10 + i, i));
        }
        Check.refuses(x, "61st plank", Texts.STATE, () -> x.addPlank(0, 10, 0));
        Check.refuses(x, "61st plank of no wood", Texts.ARGUMENT, () -> x.addPlank(4, 10, 0));
        Yards.plankIs(x, 59, 3, 69, 59, 0, 69);
    }

    private static void addKnot() {
        BendYard x = new BendYard();
        x.addPlank(1, 50, 7);
        int[] places = {49, 0, 25, 10, 30, 5, 40, 24};
        for (int i = 0; i < 8; i++) {
            Check.same("knot", i + 1, x.addKnot(0, places[i]));
        }
        Check.refuses(x, "ninth knot", Texts.STATE, () -> x.addKnot(0, 1));
        Check.refuses(x, "ninth knot at a knot", Texts.STATE, () -> x.addKnot(0, 25));
        Check.refuses(x, "ninth knot at no place", Texts.ARGUMENT, () -> x.addKnot(0, 50));
        Yards.plankIs(x, 0, 1, 50, 7, 8, 13);
        x.addPlank(1, 12, 7);
        Check.same("first knot", 1, x.addKnot(1, 11));
        Check.refuses(x, "same knot", Texts.STATE, () -> x.addKnot(1, 11));
        Check.refuses(x, "place -1", Texts.ARGUMENT, () -> x.addKnot(1, -1));
        Check.refuses(x, "place 12", Texts.ARGUMENT, () -> x.addKnot(1, 12));
        Check.refuses(x, "plank -1", Texts.BOUNDS, () -> x.addKnot(-1, 0));
        Check.refuses(x, "plank 2", Texts.BOUNDS, () -> x.addKnot(2, 0));
        Check.refuses(x, "plank 2, place -1", Texts.BOUNDS, () -> x.addKnot(2, -1));
        Check.same("second knot", 2, x.addKnot(1, 0));
    }

    private static void plank() {
        BendYard x = new BendYard();
        x.addPlank(2, 100, 33);
        Check.refuses(x, "plank(1, 0)", Texts.BOUNDS, () -> x.plank(1, 0));
        Check.refuses(x, "plank(-1, 0)", Texts.BOUNDS, () -> x.plank(-1, 0));
        Check.refuses(x, "plank(0, 5)", Texts.BOUNDS, () -> x.plank(0, 5));
        Check.refuses(x, "plank(0, -1)", Texts.BOUNDS, () -> x.plank(0, -1));
        Yards.plankIs(x, 0, 2, 100, 33, 0, 100);
    }

    private static void clearPlaces() {
        BendYard x = new BendYard();
        x.addPlank(0, 100, 0);
        x.addKnot(0, 60);
        Check.same("clear ahead", 60, x.plank(0, 4));
        x.addKnot(0, 20);
        Check.same("clear between or behind", 39, x.plank(0, 4));
        x.addKnot(0, 61);
        Check.same("clear between", 39, x.plank(0, 4));
        x.addKnot(0, 40);
        Check.same("clear behind", 38, x.plank(0, 4));
        Check.same("place of 38", 62, x.find(0, 38, true));
        Check.same("place of 20", 0, x.find(0, 20, true));
        Check.same("place of 21", 62, x.find(0, 21, true));
        Check.same("place of 39", -1, x.find(0, 39, true));
    }

    private static void find() {
        BendYard x = new BendYard();
        x.addPlank(0, 200, 0);
        x.addPlank(0, 90, 0);
        x.addPlank(1, 30, 0);
        x.addPlank(0, 60, 0);
        x.addPlank(0, 60, 0);
        x.addKnot(3, 30);
        Check.same("30 of oak", 3, x.find(0, 30, false));
        Check.same("place of 30", 0, x.find(0, 30, true));
        Check.same("31 of oak", 4, x.find(0, 31, false));
        Check.same("61 of oak", 1, x.find(0, 61, false));
        Check.same("200 of oak", 0, x.find(0, 200, false));
        Check.same("10 of elm", 2, x.find(1, 10, false));
        Check.same("31 of elm", -1, x.find(1, 31, false));
        Check.same("place of 31 of elm", -1, x.find(1, 31, true));
        Check.same("10 of larch", -1, x.find(2, 10, false));
        x.addKnot(4, 0);
        Check.same("place of 59", 1, x.find(0, 59, true));
        Check.same("60 of oak", 1, x.find(0, 60, false));
        Check.refuses(x, "find wood -1", Texts.ARGUMENT, () -> x.find(-1, 10, true));
        Check.refuses(x, "find wood 4", Texts.ARGUMENT, () -> x.find(4, 10, true));
        Check.refuses(x, "find length 9", Texts.ARGUMENT, () -> x.find(0, 9, true));
        Check.refuses(x, "find length 201", Texts.ARGUMENT, () -> x.find(0, 201, false));
    }

    /** A yard with one slip, a plan that cuts a piece of oak of the length, and one plank of 100. */
    private static BendYard cutter(int length) {
        BendYard x = new BendYard();
        Texts.compile(x, 0, "cut oak " + length + "; bend 0 0 0; fit;");
        x.addSlip();
        x.addPlank(0, 100, 40);
        return x;
    }

    private static void cutInTheMiddle() {
        BendYard x = cutter(30);
        x.addKnot(0, 28);
        x.addKnot(0, 5);
        x.addKnot(0, 60);
        x.addKnot(0, 99);
        x.start(0, 0, 0);
        x.run(1);
        Yards.plankIs(x, 0, 0, 29, 40, 2, 22);
        Yards.plankIs(x, 1, 0, 41, 40, 2, 38);
        Check.same("waste", 0, x.count(7));
        Check.same("planks", 2, x.count(1));
        Check.same("length of all", 70, x.count(8));
        Check.refuses(x, "knot moved along", Texts.STATE, () -> x.addKnot(1, 1));
        Check.refuses(x, "knot at the end", Texts.STATE, () -> x.addKnot(1, 40));
        Check.refuses(x, "place behind the cut", Texts.ARGUMENT, () -> x.addKnot(0, 29));
    }

    private static void cutAheadOfKnots() {
        BendYard x = cutter(30);
        x.addKnot(0, 30);
        x.addKnot(0, 80);
        x.start(0, 0, 0);
        x.run(1);
        Yards.plankIs(x, 0, 0, 0, 40, 0, 0);
        Yards.plankIs(x, 1, 0, 70, 40, 2, 49);
        Check.refuses(x, "knot directly behind the cut", Texts.STATE, () -> x.addKnot(1, 0));
        Check.refuses(x, "knot behind it", Texts.STATE, () -> x.addKnot(1, 50));
        Check.same("knot of the new plank", 3, x.addKnot(1, 69));
        BendYard y = cutter(20);
        for (int i = 0; i < 8; i++) {
            y.addKnot(0, i < 4 ? 19 - 5 * i : 40 + 10 * (i - 4));
        }
        y.start(0, 0, 0);
        y.run(1);
        Yards.plankIs(y, 0, 0, 20, 40, 4, 4);
        Yards.plankIs(y, 1, 0, 60, 40, 4, 29);
    }

    private static void cutWithWaste() {
        BendYard x = cutter(85);
        x.addKnot(0, 7);
        x.addKnot(0, 3);
        x.addKnot(0, 95);
        x.start(0, 0, 0);
        x.run(1);
        Yards.plankIs(x, 0, 0, 0, 40, 0, 0);
        Check.same("waste", 15, x.count(7));
        Check.same("planks", 1, x.count(1));
        Check.same("length of all", 0, x.count(8));
        Check.refuses(x, "knot where nothing is left", Texts.ARGUMENT, () -> x.addKnot(0, 0));
        Check.same("find where nothing is left", -1, x.find(0, 10, false));
    }

    private static void cutBesideTheLimit() {
        BendYard x = cutter(80);
        x.addKnot(0, 9);
        x.start(0, 0, 0);
        x.run(1);
        Yards.plankIs(x, 0, 0, 10, 40, 1, 9);
        Yards.plankIs(x, 1, 0, 10, 40, 0, 10);
        Check.same("waste of 10 and 10", 0, x.count(7));
        BendYard y = cutter(82);
        y.addKnot(0, 8);
        y.start(0, 0, 0);
        y.run(1);
        Yards.plankIs(y, 0, 0, 0, 40, 0, 0);
        Check.same("waste of 9 and 9", 18, y.count(7));
        BendYard z = cutter(100);
        z.start(0, 0, 0);
        z.run(1);
        Yards.plankIs(z, 0, 0, 0, 40, 0, 0);
        Check.same("waste of a whole plank", 0, z.count(7));
    }

    private static void cutWithoutRoomForPlanks() {
        BendYard x = cutter(30);
        x.addKnot(0, 19);
        for (int i = 1; i < 60; i++) {
            x.addPlank(1, 10, 0);
        }
        x.start(0, 0, 0);
        x.run(1);
        Yards.plankIs(x, 0, 0, 20, 40, 1, 19);
        Check.same("waste of a 61st plank", 50, x.count(7));
        Check.same("planks", 60, x.count(1));
    }

    /** "numbered, from 0 in the order in which they came": those that were added, and those that were left behind a cut. */
    private static void numbersBehindCuts() {
        BendYard x = new BendYard();
        Texts.compile(x, 0, "cut oak 10; bend 0 0 0; fit;");
        x.addSlip();
        x.addPlank(0, 100, 15);
        for (int i = 1; i < 19; i += 2) {
            x.start(0, 0, 0);
            x.run(3);
            int left = 100 - 5 * (i + 1);
            Yards.plankIs(x, i, 0, left, 15, 0, left);
            Check.same("number of a plank that is added", i + 1, x.addPlank(1, 20 + i, 15));
            Yards.plankIs(x, i + 1, 1, 20 + i, 15, 0, 20 + i);
        }
    }

    /** Neither what is left behind a cut nor a new plank takes the place of one of which nothing is left. */
    private static void emptyPlanksAreNotUsedAgain() {
        BendYard x = cutter(30);
        x.addPlank(0, 30, 40);
        for (int i = 2; i < 59; i++) {
            x.addPlank(1, 10, 0);
        }
        x.start(0, 0, 0);
        x.run(3);
        Yards.plankIs(x, 1, 0, 0, 40, 0, 0);
        x.start(0, 0, 0);
        x.run(3);
        Yards.plankIs(x, 0, 0, 0, 40, 0, 0);
        Yards.plankIs(x, 59, 0, 70, 39, 0, 70);
        Check.same("no waste", 0, x.count(7));
        x.start(0, 0, 0);
        x.run(3);
        Yards.plankIs(x, 0, 0, 0, 40, 0, 0);
        Yards.plankIs(x, 1, 0, 0, 40, 0, 0);
        Yards.plankIs(x, 59, 0, 0, 39, 0, 0);
        Check.same("waste with three empty planks", 40, x.count(7));
        Check.same("planks", 60, x.count(1));
        Check.refuses(x, "61st plank with three empty ones", Texts.STATE, () -> x.addPlank(0, 10, 0));
    }

    /** In one tick each slip cuts of what those ahead of it left. */
    private static void cutBySeveralSlips() {
        BendYard x = cutter(30);
        for (int i = 1; i < 5; i++) {
            x.addSlip();
        }
        for (int i = 4; i >= 0; i--) {
            x.start(i, 0, 0);
        }
        x.run(1);
        for (int i = 0; i < 5; i++) {
            Check.same("slip " + i + " has a piece", i < 3 ? 1 : 0, x.slip(i, 5));
        }
        for (int plank = 0; plank < 3; plank++) {
            Yards.plankIs(x, plank, 0, 0, 40, 0, 0);
        }
        Yards.plankIs(x, 3, 0, 10, 40, 0, 10);
        Check.same("planks", 4, x.count(1));
        Check.same("none waits for a frame", 0, x.count(4));
    }

    /** Wood is cut by the numbers of the slips, however long they try. */
    private static void whoWaitsForWoodHasNoTurn() {
        BendYard x = new BendYard();
        Texts.compile(x, 0, "cut oak 30; bend 0 0 0; fit;");
        for (int i = 0; i < 3; i++) {
            x.addSlip();
        }
        x.start(2, 0, 0);
        x.run(3);
        x.start(1, 0, 0);
        x.run(3);
        x.start(0, 0, 0);
        for (int i = 0; i < 3; i++) {
            x.addPlank(0, 30, 40);
            x.run(1);
            for (int slip = 0; slip < 3; slip++) {
                Check.same("cuts of slip " + slip + " with plank " + i, slip <= i ? 1 : 0, Math.min(1, x.slip(slip, 2)));
            }
        }
    }

    /** Of planks of one length the smallest number is cut, whatever their wetness, their knots, and their first places. */
    private static void onlyLengthAndNumberCount() {
        for (int wetness : new int[] {0, 50, 100}) {
            BendYard x = new BendYard();
            x.addPlank(0, 90, 50);
            x.addPlank(0, 80, 50);
            x.addPlank(0, 80, wetness);
            x.addKnot(1, 20);
            x.addKnot(1, 30);
            Check.same("more knots", 1, x.find(0, 40, false));
            Check.same("a place that is not the first", 31, x.find(0, 40, true));
            x.addKnot(2, 70);
            Check.same("as wet as " + wetness, 1, x.find(0, 20, false));
            x.addKnot(2, 75);
            x.addKnot(2, 79);
            Check.same("fewer knots", 1, x.find(0, 20, false));
            Check.same("only the other one", 2, x.find(0, 50, false));
        }
        BendYard y = new BendYard();
        y.addPlank(0, 300, 0);
        Check.same("a plank that is longer than any piece", 0, y.find(0, 10, false));
    }

    private static void cutKeepsWetness() {
        BendYard x = cutter(30);
        x.addPlank(0, 30, 77);
        x.start(0, 0, 0);
        x.run(1);
        Check.same("wetness of the piece", 77, x.slip(0, 6));
        Check.same("heat of the piece", 20, x.slip(0, 7));
        Check.same("cracks of the piece", 0, x.slip(0, 8));
        Check.same("there is a piece", 1, x.slip(0, 5));
    }

    private static void wetnessOfPlanks() {
        BendYard x = cutter(30);
        x.addPlank(0, 30, 30);
        x.addPlank(1, 30, 0);
        x.addPlank(1, 30, 15);
        x.addPlank(1, 30, 16);
        x.start(0, 0, 0);
        x.run(4);
        Yards.plankIs(x, 0, 0, 100, 40, 0, 100);
        x.run(1);
        Check.same("wet plank", 39, x.plank(0, 2));
        Check.same("plank of which nothing is left", 30, x.plank(1, 2));
        Check.same("dry plank", 1, x.plank(2, 2));
        Check.same("plank of 15", 15, x.plank(3, 2));
        Check.same("plank of 16", 15, x.plank(4, 2));
        x.run(5);
        Check.same("wet plank later", 38, x.plank(0, 2));
        Check.same("dry plank later", 2, x.plank(2, 2));
        Check.same("plank of 16 later", 15, x.plank(4, 2));
        x.run(200);
        Check.same("wet plank at the end", 15, x.plank(0, 2));
        Check.same("dry plank at the end", 15, x.plank(2, 2));
    }

    private static void frames() {
        BendYard x = new BendYard();
        for (int i = 1; i <= 4; i++) {
            Check.same("frame", i, x.addFrame(2));
        }
        Check.same("other frame", 1, x.addFrame(4));
        Check.same("frame of sort 0", 1, x.addFrame(0));
        Check.refuses(x, "fifth frame", Texts.STATE, () -> x.addFrame(2));
        Check.refuses(x, "sort -1", Texts.ARGUMENT, () -> x.addFrame(-1));
        Check.refuses(x, "sort 5", Texts.ARGUMENT, () -> x.addFrame(5));
        Check.same("frames", 4, x.frames(2, 0));
        Check.same("free frames", 4, x.frames(2, 1));
        Check.same("none waits", 0, x.frames(2, 2));
        Check.refuses(x, "frames(-1, 0)", Texts.BOUNDS, () -> x.frames(-1, 0));
        Check.refuses(x, "frames(5, 0)", Texts.BOUNDS, () -> x.frames(5, 0));
        Check.refuses(x, "frames(0, -1)", Texts.BOUNDS, () -> x.frames(0, -1));
        Check.refuses(x, "frames(0, 3)", Texts.BOUNDS, () -> x.frames(0, 3));
        Texts.compile(x, 0, "take floor; take bow; give bow; give floor;");
        for (int i = 0; i < 3; i++) {
            x.addSlip();
            x.start(i, 0, 0);
        }
        x.run(1);
        Check.same("all wait", 3, x.frames(4, 2));
        Check.same("one is free", 1, x.frames(4, 1));
        x.run(1);
        Check.same("two wait", 2, x.frames(4, 2));
        Check.same("none is free", 0, x.frames(4, 1));
        Check.same("there is one", 1, x.frames(4, 0));
        Check.same("one waits for the other sort", 0, x.frames(0, 2));
        x.run(1);
        Check.same("one waits for the other sort now", 1, x.frames(0, 2));
    }
}
