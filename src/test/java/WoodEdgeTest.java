/**
 * Promises 7 to 12 and "Planks", "Cutting" and "Frames" of "2. The yard", sentence by sentence in the order of the
 * document: the boundaries that no other test has for itself.
 */
public final class WoodEdgeTest {
    private static final int MIN = Integer.MIN_VALUE;
    private static final int MAX = Integer.MAX_VALUE;

    public static void main(String[] args) {
        numbersOfPlanks();
        limitsOfPlanks();
        placesOfKnots();
        eightKnots();
        knotsOfWhatIsLeft();
        nothingLeft();
        allEightKnots();
        mostPlacesWithoutAKnot();
        tellingOfPlanks();
        justSoManyPlaces();
        firstPlacesOfSeveral();
        leastLengthThenSmallestNumber();
        findLimits();
        findIsWhatIsCut();
        leftAheadAndBehind();
        knotsAreCountedAnew();
        sixtiethPlank();
        sixtyFirstPlank();
        sixtyFirstPlankAndNothingAhead();
        wetnessOfWhatIsLeft();
        fourFramesOfEachSort();
        framesThatAreHeld();
        tellingOfFrames();
        Check.end("WoodEdgeTest");
    }

    /** "numbered, from 0 in the order in which they came", "At most 60", "if there are 60" */
    private static void numbersOfPlanks() {
        BendYard x = new BendYard();
        for (int i = 0; i < 60; i++) {
            Check.same("number", i, x.addPlank(i % 4, 300 - i, 100 - i));
            Check.same("planks", i + 1, x.count(1));
        }
        Check.refuses(x, "61st plank", Texts.STATE, () -> x.addPlank(0, 10, 0));
        Check.refuses(x, "61st plank that is too short", Texts.ARGUMENT, () -> x.addPlank(0, 9, 0));
        for (int i = 0; i < 60; i += 2) {
            Yards.plankIs(x, i, i % 4, 300 - i, 100 - i, 0, 300 - i);
        }
        Yards.plankIs(x, 59, 3, 241, 41, 0, 241);
        Check.same("length of all", 60 * 300 - 59 * 30, x.count(8));
        Check.same("the last one is found", 59, x.find(3, 200, false));
        x.run(5);
        Check.same("the first one dries", 99, x.plank(0, 2));
        Check.same("the last one dries", 40, x.plank(59, 2));
    }

    /** "if wood is not 0 to 3, length is not 10 to 300, or wetness is not 0 to 100": each side of each edge. */
    private static void limitsOfPlanks() {
        BendYard x = new BendYard();
        for (int wood : new int[] {MIN, -1, 4, MAX}) {
            Check.refuses(x, "wood " + wood, Texts.ARGUMENT, () -> x.addPlank(wood, 10, 0));
        }
        for (int length : new int[] {MIN, -10, 0, 9, 301, MAX}) {
            Check.refuses(x, "length " + length, Texts.ARGUMENT, () -> x.addPlank(0, length, 0));
        }
        for (int wetness : new int[] {MIN, -1, 101, MAX}) {
            Check.refuses(x, "wetness " + wetness, Texts.ARGUMENT, () -> x.addPlank(0, 10, wetness));
        }
        int number = 0;
        for (int wood : new int[] {0, 3}) {
            for (int length : new int[] {10, 300}) {
                for (int wetness : new int[] {0, 100}) {
                    Check.same("number", number, x.addPlank(wood, length, wetness));
                    Yards.plankIs(x, number, wood, length, wetness, 0, length);
                    number++;
                }
            }
        }
    }

    /** "if place is not 0 to its length less 1", "if there is no such plank", "if there is a knot already" */
    private static void placesOfKnots() {
        BendYard x = new BendYard();
        for (int plank : new int[] {MIN, -1, 0, 1, 59, 60, MAX}) {
            Check.refuses(x, "knot of no plank " + plank, Texts.BOUNDS, () -> x.addKnot(plank, 0));
        }
        x.addPlank(0, 10, 0);
        x.addPlank(0, 300, 0);
        for (int plank : new int[] {MIN, -1, 2, 60, MAX}) {
            Check.refuses(x, "knot of plank " + plank, Texts.BOUNDS, () -> x.addKnot(plank, -1));
        }
        for (int plank = 0; plank < 2; plank++) {
            int number = plank;
            int length = x.plank(plank, 1);
            for (int place : new int[] {MIN, -1, length, MAX}) {
                Check.refuses(x, "knot at " + place, Texts.ARGUMENT, () -> x.addKnot(number, place));
            }
            Check.same("first place", 1, x.addKnot(plank, 0));
            Check.same("last place", 2, x.addKnot(plank, length - 1));
            Check.refuses(x, "first place again", Texts.STATE, () -> x.addKnot(number, 0));
            Check.refuses(x, "last place again", Texts.STATE, () -> x.addKnot(number, length - 1));
            Check.same("place beside a knot", 3, x.addKnot(plank, 1));
            Yards.plankIs(x, plank, 0, length, 0, 3, length - 3);
        }
    }

    /** "or it has 8": the eighth is told, the ninth is not; of several exceptions the one named first. */
    private static void eightKnots() {
        BendYard x = new BendYard();
        x.addPlank(0, 100, 0);
        x.addPlank(0, 100, 0);
        for (int i = 0; i < 8; i++) {
            Check.same("knot", i + 1, x.addKnot(0, 99 - 12 * i));
        }
        Check.refuses(x, "ninth knot", Texts.STATE, () -> x.addKnot(0, 0));
        Check.refuses(x, "ninth knot at a knot", Texts.STATE, () -> x.addKnot(0, 99));
        Check.refuses(x, "ninth knot behind the end", Texts.ARGUMENT, () -> x.addKnot(0, 100));
        Check.refuses(x, "ninth knot of no plank", Texts.BOUNDS, () -> x.addKnot(2, 100));
        Yards.plankIs(x, 0, 0, 100, 0, 8, 15);
        Check.same("knot of the other plank", 1, x.addKnot(1, 0));
        Yards.plankIs(x, 1, 0, 100, 0, 1, 99);
    }

    /** A yard with one plank of elm, of which a piece of the length was just cut. */
    private static BendYard cutOf(int length, int plankLength, int... knots) {
        BendYard x = Yards.building("cut elm " + length + ";bend 0 0 0;fit;", 1, plankLength, 60, 60);
        for (int place : knots) {
            x.addKnot(0, place);
        }
        x.run(1);
        Check.same("a piece was cut", 1, x.slip(0, 5));
        return x;
    }

    /** "0 to its length less 1": the length that is left; what was cut away leaves room for other knots. */
    private static void knotsOfWhatIsLeft() {
        BendYard x = cutOf(40, 100, 0, 2, 4, 6, 8, 10, 12, 59);
        Yards.plankIs(x, 0, 1, 13, 60, 7, 1);
        Yards.plankIs(x, 1, 1, 47, 60, 1, 40);
        Check.refuses(x, "place behind what is left", Texts.ARGUMENT, () -> x.addKnot(0, 13));
        Check.refuses(x, "knot that stayed", Texts.STATE, () -> x.addKnot(0, 12));
        Check.same("eighth knot", 8, x.addKnot(0, 11));
        Check.refuses(x, "ninth knot", Texts.STATE, () -> x.addKnot(0, 9));
        Check.refuses(x, "knot that moved", Texts.STATE, () -> x.addKnot(1, 6));
        Check.same("last place of the new plank", 2, x.addKnot(1, 46));
        Check.refuses(x, "place behind the new plank", Texts.ARGUMENT, () -> x.addKnot(1, 47));
        Check.refuses(x, "knot of the plank that comes next", Texts.BOUNDS, () -> x.addKnot(2, 0));
    }

    /** "(0 if nothing is left of it)": no place is one, no piece is cut, and its number is not used again. */
    private static void nothingLeft() {
        BendYard x = cutOf(100, 100);
        Yards.plankIs(x, 0, 1, 0, 60, 0, 0);
        Check.refuses(x, "knot of nothing", Texts.ARGUMENT, () -> x.addKnot(0, 0));
        Check.same("find of nothing", -1, x.find(1, 10, false));
        Check.same("planks", 1, x.count(1));
        Check.same("length of all", 0, x.count(8));
        Check.same("number of the next plank", 1, x.addPlank(1, 10, 0));
        Check.same("find of the next plank", 1, x.find(1, 10, false));
    }

    /** "at most 8": each of them counts for the places, and all of them stay ahead of a cut, or behind it. */
    private static void allEightKnots() {
        for (int first : new int[] {0, 11, 40}) {
            BendYard x = new BendYard();
            x.addPlank(0, 130, 0);
            for (int i = 7; i >= 0; i--) {
                x.addKnot(0, first + 11 * i);
            }
            Check.same("ahead or behind", first >= 30 ? 0 : first + 78, x.find(0, 30, true));
            Check.same("between", first >= 10 ? 0 : first + 1, x.find(0, 10, true));
            Check.same("most places", Math.max(first, 130 - 78 - first), x.plank(0, 4));
        }
        BendYard ahead = cutOf(60, 80, 0, 2, 4, 6, 9, 11, 14, 19);
        Yards.plankIs(ahead, 0, 1, 20, 60, 8, 4);
        BendYard behind = cutOf(60, 80, 60, 61, 64, 66, 69, 71, 76, 79);
        Yards.plankIs(behind, 0, 1, 0, 60, 0, 0);
        Yards.plankIs(behind, 1, 1, 20, 60, 8, 4);
        Check.refuses(behind, "the eighth knot", Texts.STATE, () -> behind.addKnot(1, 19));
        Check.refuses(behind, "a ninth knot", Texts.STATE, () -> behind.addKnot(1, 2));
        Check.refuses(ahead, "a ninth knot", Texts.STATE, () -> ahead.addKnot(0, 1));
    }

    /** "the most places one behind the other without a knot": ahead of all knots, between, behind, and none. */
    private static void mostPlacesWithoutAKnot() {
        BendYard x = new BendYard();
        x.addPlank(0, 10, 0);
        int[] places = {9, 0, 4, 5, 2, 7, 1, 8};
        int[] most = {9, 8, 4, 3, 3, 1, 1, 1};
        for (int i = 0; i < 8; i++) {
            x.addKnot(0, places[i]);
            Check.same("most places with knots " + (i + 1), most[i], x.plank(0, 4));
        }
        x.addPlank(0, 100, 0);
        x.addKnot(1, 30);
        Check.same("behind", 69, x.plank(1, 4));
        x.addKnot(1, 80);
        Check.same("between", 49, x.plank(1, 4));
        x.addKnot(1, 50);
        Check.same("ahead", 30, x.plank(1, 4));
    }

    /** "if there is no such plank, or what is not 0 to 4" */
    private static void tellingOfPlanks() {
        BendYard x = new BendYard();
        Check.refuses(x, "plank of a new yard", Texts.BOUNDS, () -> x.plank(0, 0));
        x.addPlank(0, 10, 0);
        x.addPlank(3, 300, 100);
        for (int wrong : new int[] {MIN, -1, 2, 59, 60, MAX}) {
            Check.refuses(x, "plank(" + wrong + ", 0)", Texts.BOUNDS, () -> x.plank(wrong, 0));
        }
        for (int wrong : new int[] {MIN, -1, 5, MAX}) {
            Check.refuses(x, "plank(1, " + wrong + ")", Texts.BOUNDS, () -> x.plank(1, wrong));
        }
        Yards.plankIs(x, 1, 3, 300, 100, 0, 300);
    }

    /** "that have so many places one behind the other without a knot", "the first such places of it" */
    private static void justSoManyPlaces() {
        BendYard x = new BendYard();
        x.addPlank(2, 100, 0);
        Check.same("as long as the plank", 0, x.find(2, 100, true));
        Check.same("longer than the plank", -1, x.find(2, 101, true));
        x.addKnot(0, 20);
        Check.same("up to the knot", 0, x.find(2, 20, true));
        Check.same("one more", 21, x.find(2, 21, true));
        Check.same("behind the knot", 21, x.find(2, 79, true));
        Check.same("one more than behind the knot", -1, x.find(2, 80, true));
        x.addKnot(0, 51);
        Check.same("between the knots", 21, x.find(2, 30, true));
        Check.same("one more than between the knots", 52, x.find(2, 31, true));
        Check.same("behind both", 52, x.find(2, 48, true));
        Check.same("one more than behind both", -1, x.find(2, 49, true));
        Check.same("up to the first knot still", 0, x.find(2, 20, true));
        x.addKnot(0, 0);
        Check.same("between the first two", 1, x.find(2, 19, true));
        Check.same("one more than there", 21, x.find(2, 20, true));
        x.addKnot(0, 99);
        Check.same("up to the last knot", 52, x.find(2, 47, true));
        Check.same("one more than up to the last knot", -1, x.find(2, 48, true));
        Check.same("no plank either", -1, x.find(2, 48, false));
    }

    /** "the first such places of it": not those that fit best, nor the longest row of them. */
    private static void firstPlacesOfSeveral() {
        BendYard x = new BendYard();
        x.addPlank(1, 130, 0);
        x.addKnot(0, 40);
        x.addKnot(0, 61);
        Check.same("of three rows", 0, x.find(1, 20, true));
        Check.same("of two rows", 0, x.find(1, 40, true));
        Check.same("of the longest row", 62, x.find(1, 41, true));
        x.addKnot(0, 10);
        Check.same("behind the first row", 11, x.find(1, 20, true));
        Check.same("in the first row", 0, x.find(1, 10, true));
    }

    /** "that with the least length, of several the one with the smallest number": of those of the wood that have them. */
    private static void leastLengthThenSmallestNumber() {
        BendYard x = new BendYard();
        x.addPlank(0, 60, 0);
        x.addPlank(0, 59, 0);
        x.addPlank(0, 59, 0);
        x.addPlank(1, 20, 0);
        x.addPlank(0, 58, 0);
        x.addKnot(4, 29);
        Check.same("least length", 4, x.find(0, 29, false));
        Check.same("smallest number of two", 1, x.find(0, 30, false));
        Check.same("all of two", 1, x.find(0, 59, false));
        Check.same("longer than these", 0, x.find(0, 60, false));
        Check.same("other wood", 3, x.find(1, 20, false));
        x.addKnot(1, 30);
        Check.same("up to the knot", 1, x.find(0, 30, false));
        Check.same("not with the knot", 2, x.find(0, 31, false));
        Check.same("none of this wood", -1, x.find(3, 10, false));
        Check.same("none is so long", -1, x.find(0, 61, false));
        // The length of the whole plank counts, not that of its rows without a knot.
        x.addPlank(2, 100, 0);
        x.addKnot(5, 20);
        x.addKnot(5, 41);
        x.addKnot(5, 62);
        x.addKnot(5, 83);
        x.addPlank(2, 99, 0);
        Check.same("the shorter plank", 6, x.find(2, 20, false));
    }

    /** "if wood is not 0 to 3, or length is not 10 to 200" */
    private static void findLimits() {
        BendYard x = new BendYard();
        x.addPlank(0, 300, 0);
        x.addPlank(3, 200, 0);
        for (int wood : new int[] {MIN, -1, 4, MAX}) {
            Check.refuses(x, "find of wood " + wood, Texts.ARGUMENT, () -> x.find(wood, 10, false));
            Check.refuses(x, "place of wood " + wood, Texts.ARGUMENT, () -> x.find(wood, 200, true));
        }
        for (int length : new int[] {MIN, -1, 0, 9, 201, 300, MAX}) {
            Check.refuses(x, "find of length " + length, Texts.ARGUMENT, () -> x.find(0, length, false));
            Check.refuses(x, "place of length " + length, Texts.ARGUMENT, () -> x.find(3, length, true));
        }
        Check.same("least length", 0, x.find(0, 10, false));
        Check.same("greatest length", 0, x.find(0, 200, false));
        Check.same("greatest length of wood 3", 1, x.find(3, 200, false));
        Check.same("its place", 0, x.find(3, 200, true));
        Check.same("none of wood 1", -1, x.find(1, 10, true));
        x.addPlank(1, 199, 0);
        Check.same("not quite the greatest length", -1, x.find(1, 200, false));
        Check.same("one less", 2, x.find(1, 199, false));
        x.addPlank(2, 10, 0);
        Check.same("not quite the least length", -1, x.find(2, 11, false));
        Check.same("just the least length", 3, x.find(2, 10, false));
    }

    /** "Tells which plank would be cut.": nothing is cut by this, and the next cut is as it was told. */
    private static void findIsWhatIsCut() {
        BendYard x = Yards.withSlips(1, "cut oak 25;bend 0 0 0;fit;");
        x.addPlank(0, 90, 10);
        x.addPlank(0, 70, 20);
        x.addKnot(1, 20);
        x.addPlank(0, 24, 30);
        long before = x.digest();
        Check.same("plank", 1, x.find(0, 25, false));
        Check.same("place", 21, x.find(0, 25, true));
        Check.same("digest behind find", before, x.digest());
        x.start(0, 0, 0);
        x.run(1);
        Check.same("wetness of the piece", 20, x.slip(0, 6));
        Yards.plankIs(x, 1, 0, 21, 20, 1, 20);
        Yards.plankIs(x, 3, 0, 24, 20, 0, 24);
    }

    /** "what is shorter than 10 .. is waste", "then nothing is left of the plank, if this is so for what is ahead" */
    private static void leftAheadAndBehind() {
        for (int ahead : new int[] {1, 9, 10, 11}) {
            for (int behind : new int[] {0, 1, 9, 10, 11}) {
                BendYard x = cutOf(30, ahead + 30 + behind, ahead - 1);
                boolean hasNew = behind >= 10;
                Yards.plankIs(x, 0, 1, ahead >= 10 ? ahead : 0, 60, ahead >= 10 ? 1 : 0, ahead >= 10 ? ahead - 1 : 0);
                Check.same("planks", hasNew ? 2 : 1, x.count(1));
                Check.same("waste", (ahead < 10 ? ahead : 0) + (hasNew ? 0 : behind), x.count(7));
                Check.same("length of all", (ahead < 10 ? 0 : ahead) + (hasNew ? behind : 0), x.count(8));
                if (hasNew) {
                    Yards.plankIs(x, 1, 1, behind, 60, 0, behind);
                }
            }
        }
    }

    /** "its places are counted anew, its knots stay where they are on it": at its first and at its last place, too. */
    private static void knotsAreCountedAnew() {
        BendYard x = cutOf(30, 60, 9, 40, 59);
        Yards.plankIs(x, 0, 1, 10, 60, 1, 9);
        Yards.plankIs(x, 1, 1, 20, 60, 2, 18);
        Check.refuses(x, "first place", Texts.STATE, () -> x.addKnot(1, 0));
        Check.refuses(x, "last place", Texts.STATE, () -> x.addKnot(1, 19));
        Check.refuses(x, "last place ahead", Texts.STATE, () -> x.addKnot(0, 9));
        Check.same("between", 3, x.addKnot(1, 10));
    }

    /** A yard in which a slip cuts 30 of a plank with so many places ahead and behind, the last one of so many planks. */
    private static BendYard cutOfTheLast(int planks, int ahead, int behind) {
        BendYard x = Yards.withSlips(1, "cut elm 30;bend 0 0 0;fit;");
        for (int i = 1; i < planks; i++) {
            x.addPlank(0, 10, 0);
        }
        x.addPlank(1, ahead + 30 + behind, 60);
        if (ahead > 0) {
            x.addKnot(planks - 1, ahead - 1);
        }
        x.start(0, 0, 0);
        x.run(1);
        Check.same("a piece was cut", 1, x.slip(0, 5));
        return x;
    }

    /** "or would be the 61st plank": the 60th is one, and it has the next number. */
    private static void sixtiethPlank() {
        BendYard x = cutOfTheLast(59, 12, 10);
        Yards.plankIs(x, 58, 1, 12, 60, 1, 11);
        Yards.plankIs(x, 59, 1, 10, 60, 0, 10);
        Check.same("planks", 60, x.count(1));
        Check.same("no waste", 0, x.count(7));
        Check.refuses(x, "61st plank", Texts.STATE, () -> x.addPlank(0, 10, 0));
        Check.refuses(x, "plank 60", Texts.BOUNDS, () -> x.plank(60, 0));
    }

    /** "or would be the 61st plank, is waste (so many hands)": what is ahead stays all the same. */
    private static void sixtyFirstPlank() {
        BendYard x = cutOfTheLast(60, 12, 100);
        Yards.plankIs(x, 59, 1, 12, 60, 1, 11);
        Check.same("planks", 60, x.count(1));
        Check.same("waste", 100, x.count(7));
        Check.refuses(x, "plank 60", Texts.BOUNDS, () -> x.plank(60, 0));
        BendYard y = cutOfTheLast(60, 10, 10);
        Yards.plankIs(y, 59, 1, 10, 60, 1, 9);
        Check.same("waste of 10", 10, y.count(7));
    }

    /** Nothing is left of a plank, and what is behind would be the 61st: it does not take the place of the plank. */
    private static void sixtyFirstPlankAndNothingAhead() {
        BendYard x = cutOfTheLast(60, 0, 100);
        Yards.plankIs(x, 59, 1, 0, 60, 0, 0);
        Check.same("planks", 60, x.count(1));
        Check.same("waste", 100, x.count(7));
        BendYard y = cutOfTheLast(60, 9, 10);
        Yards.plankIs(y, 59, 1, 0, 60, 0, 0);
        Check.same("waste of both", 19, y.count(7));
        Check.refuses(y, "a plank more", Texts.STATE, () -> y.addPlank(0, 10, 0));
        BendYard z = cutOfTheLast(59, 0, 100);
        Yards.plankIs(z, 58, 1, 0, 60, 0, 0);
        Yards.plankIs(z, 59, 1, 100, 60, 0, 100);
        Check.same("no waste", 0, z.count(7));
    }

    /** "The piece has the wetness of the plank." and so has what is left ahead and behind. */
    private static void wetnessOfWhatIsLeft() {
        for (int wetness : new int[] {0, 100}) {
            BendYard x = Yards.building("cut fir 10;bend 0 0 0;fit;", 3, 40, wetness, 0);
            x.addKnot(0, 14);
            x.addKnot(0, 9);
            x.run(1);
            Yards.plankIs(x, 0, 3, 15, wetness, 2, 9);
            Yards.plankIs(x, 1, 3, 15, wetness, 0, 15);
            Yards.pieceIs(x, 1, wetness, 20, 0);
        }
    }

    /** "Of each of the 5 sorts there are so many in the yard, 0 to 4 (0, at first)", "if there are 4 of this sort" */
    private static void fourFramesOfEachSort() {
        BendYard x = new BendYard();
        for (int sort = 0; sort < 5; sort++) {
            int own = sort;
            Yards.framesAre(x, sort, 0, 0, 0);
            for (int i = 1; i <= 4; i++) {
                Check.same("frames of sort " + sort, i, x.addFrame(sort));
                Yards.framesAre(x, sort, i, i, 0);
            }
            Check.refuses(x, "fifth frame of sort " + sort, Texts.STATE, () -> x.addFrame(own));
        }
        for (int wrong : new int[] {MIN, -1, 5, MAX}) {
            Check.refuses(x, "frame of sort " + wrong, Texts.ARGUMENT, () -> x.addFrame(wrong));
        }
    }

    /** "which are free or held by slips": those that are held count, so the fifth one is refused though none is free. */
    private static void framesThatAreHeld() {
        BendYard x = Yards.withSlips(6, "take side;take bow;give bow;give side;");
        for (int i = 0; i < 4; i++) {
            x.addFrame(3);
        }
        for (int i = 0; i < 6; i++) {
            x.start(i, 0, 0);
        }
        Yards.framesAre(x, 3, 4, 4, 0);
        x.run(1);
        Yards.framesAre(x, 3, 4, 4, 6);
        x.run(1);
        Yards.framesAre(x, 3, 4, 0, 2);
        Check.refuses(x, "fifth frame", Texts.STATE, () -> x.addFrame(3));
        for (int i = 0; i < 6; i++) {
            Check.same("slip " + i + " holds", i < 4 ? 8 : 0, x.slip(i, 12));
        }
        BendYard y = Yards.withSlips(2, "take side;take bow;give bow;give side;");
        y.start(0, 0, 0);
        y.start(1, 0, 0);
        for (int i = 1; i <= 4; i++) {
            Check.same("frames with those that are held", i, y.addFrame(3));
            y.run(2);
            Yards.framesAre(y, 3, i, Math.max(0, i - 2), Math.max(0, 2 - i));
        }
        Check.refuses(y, "fifth frame with two that are held", Texts.STATE, () -> y.addFrame(3));
    }

    /** "if sort is not 0 to 4, or what is not 0 to 2" */
    private static void tellingOfFrames() {
        BendYard x = new BendYard();
        for (int wrong : new int[] {MIN, -1, 5, MAX}) {
            Check.refuses(x, "frames(" + wrong + ", 0)", Texts.BOUNDS, () -> x.frames(wrong, 0));
        }
        for (int wrong : new int[] {MIN, -1, 3, MAX}) {
            Check.refuses(x, "frames(4, " + wrong + ")", Texts.BOUNDS, () -> x.frames(4, wrong));
        }
    }
}
