/**
 * Promises 13 to 18, "Slips", the frames of a tick and "Waiting for good", sentence by sentence in the order of the
 * document: the boundaries that no other test has for itself.
 */
public final class SlipEdgeTest {
    private static final int MIN = Integer.MIN_VALUE;
    private static final int MAX = Integer.MAX_VALUE;
    private static final int BOW = 0;
    private static final int RIB = 2;
    private static final int SIDE = 3;
    /** Holds a rib from its second tick on, as long as there is no oak. */
    private static final String KEEPS_RIB = "take rib;cut oak 20;bend 0 0 0;fit;give rib;";
    private static final String RIB_ALONE = "take rib;give rib;";

    public static void main(String[] args) {
        sixSlips();
        startLimits();
        startBeforeAndBehindTelling();
        startAsSoonAsIdle();
        aRefusedStartLeavesTheHull();
        whatIsToldOfAFinishedHull();
        waitingFromTheFirstTickOn();
        asManyAsAreFree();
        waitingForAnotherSort();
        framesThatAreGivenInTheSameTick();
        lenderAndTakerOfTheSameTick();
        lendLimits();
        lendOfEachSort();
        lendOfOneOfTwo();
        lendAgain();
        lenderLosesItsPlaceAmongTakers();
        lendReturns();
        actionsWhileLent();
        tellingOfSlips();
        tellingOfBends();
        noneIsStuck();
        eachSlipAlone();
        aRingOfSlips();
        aChainOfSlips();
        stuckBehindLending();
        oneOfTwoFrames();
        Check.end("SlipEdgeTest");
    }

    /** "There are at most 6, numbered likewise", "or it is idle", "Throws IllegalStateException if there are 6" */
    private static void sixSlips() {
        BendYard x = new BendYard();
        for (int i = 0; i < 6; i++) {
            int next = i;
            Check.refuses(x, "slip that comes next", Texts.BOUNDS, () -> x.slip(next, 0));
            Check.same("number", i, x.addSlip());
            Yards.slipIs(x, i, 0, -1, 0, 0, 0, 0, 0, 0, 0, -1, -1, 0, 0, 0, -1);
            Check.same("slips", i + 1, x.count(2));
        }
        Check.refuses(x, "seventh slip", Texts.STATE, () -> x.addSlip());
        Check.refuses(x, "slip 6", Texts.BOUNDS, () -> x.slip(6, 0));
        Check.same("none builds", 0, x.count(3));
    }

    /** "if plan is not 0 to 5, or tolerance is not 0 to 60", "if there is no such slip": each side of each edge. */
    private static void startLimits() {
        BendYard x = Yards.withSlips(4, RIB_ALONE);
        Texts.compile(x, 5, RIB_ALONE);
        for (int slip : new int[] {MIN, -1, 4, 5, 6, MAX}) {
            Check.refuses(x, "start of slip " + slip, Texts.BOUNDS, () -> x.start(slip, 0, 0));
            Check.refuses(x, "start of slip " + slip + " by no plan", Texts.BOUNDS, () -> x.start(slip, 6, -1));
        }
        for (int plan : new int[] {MIN, -1, 6, MAX}) {
            Check.refuses(x, "start by plan " + plan, Texts.ARGUMENT, () -> x.start(0, plan, 0));
        }
        for (int tolerance : new int[] {MIN, -1, 61, MAX}) {
            Check.refuses(x, "start with tolerance " + tolerance, Texts.ARGUMENT, () -> x.start(0, 0, tolerance));
            Check.refuses(x, "and no plan told", Texts.ARGUMENT, () -> x.start(0, 1, tolerance));
        }
        int building = 0;
        for (int plan : new int[] {0, 5}) {
            for (int tolerance : new int[] {0, 60}) {
                Check.same("slips that build", building + 1, x.start(building, plan, tolerance));
                Check.same("its plan", plan, x.slip(building, 1));
                building++;
            }
        }
        Check.refuses(x, "start by no plan of a slip that builds", Texts.ARGUMENT, () -> x.start(3, 6, 0));
    }

    /** "if the plan was not told, or the slip is not idle": a text with an error tells no plan, and takes none away. */
    private static void startBeforeAndBehindTelling() {
        BendYard x = Yards.withSlips(2);
        for (int plan = 0; plan < 6; plan++) {
            int own = plan;
            Check.refuses(x, "plan " + plan + " that was not told", Texts.STATE, () -> x.start(0, own, 0));
        }
        Texts.compile(x, 2, "take rib;");
        Check.refuses(x, "plan with an error", Texts.STATE, () -> x.start(0, 2, 0));
        Texts.compile(x, 2, RIB_ALONE);
        Texts.compile(x, 2, "take rib;");
        Check.same("plan that stays behind an error", 1, x.start(0, 2, 0));
        Check.refuses(x, "slip that builds", Texts.STATE, () -> x.start(0, 2, 0));
        Check.refuses(x, "slip that builds, plan not told", Texts.STATE, () -> x.start(0, 3, 0));
        Check.same("other slip", 2, x.start(1, 2, 0));
    }

    /** "With the last action done the hull is finished in this tick, and the slip is idle" */
    private static void startAsSoonAsIdle() {
        BendYard x = Yards.withSlips(1, RIB_ALONE);
        x.addFrame(RIB);
        x.start(0, 0, 0);
        Check.same("nothing is finished", 0, x.run(2));
        Check.refuses(x, "start ahead of the last action", Texts.STATE, () -> x.start(0, 0, 0));
        Check.same("the hull is finished", 1, x.run(1));
        Check.same("none builds", 0, x.count(3));
        Check.same("start in the tick when it was finished", 1, x.start(0, 0, 0));
        Check.same("begun in this tick", 3, x.slip(0, 14));
        Check.same("the next hull", 1, x.run(3));
        Yards.hullIs(x, 1, 0, 0, 0, 0, 3, 6);
    }

    /** "A method that throws an exception changes nothing.": not the tolerance and not the plan either. */
    private static void aRefusedStartLeavesTheHull() {
        String plan = "cut fir 20;bend 6 6 6;fit;";
        BendYard x = Yards.building(plan, 3, 20, 100, 5);
        Texts.compile(x, 1, RIB_ALONE);
        Check.refuses(x, "start with a greater tolerance", Texts.STATE, () -> x.start(0, 0, 60));
        Check.refuses(x, "start by another plan", Texts.STATE, () -> x.start(0, 1, 60));
        x.run(3);
        Check.same("thrown away", 1, x.count(6));
        BendYard y = Yards.building(plan, 3, 20, 100, 6);
        Check.refuses(y, "start with a smaller tolerance", Texts.STATE, () -> y.start(0, 0, 0));
        Check.refuses(y, "start with no tolerance", Texts.ARGUMENT, () -> y.start(0, 0, -1));
        Check.same("fitted", 1, y.run(3));
    }

    /** "(what is told of this hull stays till the next one is begun)" */
    private static void whatIsToldOfAFinishedHull() {
        BendYard x = Yards.building("cut fir 10;bend 6 6 6;fit;", 3, 10, 100, 5);
        x.addPlank(3, 10, 75);
        // 20 * 120 / 400 is 6, and 6 * 99 / 200 is 2: a flaw of 6.
        x.run(3);
        Yards.slipIs(x, 0, 1, 0, 0, 0, 0, 0, 0, 0, 0, -1, -1, 0, 0, 1, 0);
        // 20 * 95 / 400 is 4, so it takes two ticks, and 6 * 73 / 200 is 2 again.
        x.run(4);
        Check.same("thrown away again", 2, x.slip(0, 13));
        x.addPlank(3, 10, 60);
        // 20 * 80 / 400 is 4, and 6 * 58 / 200 is 1.
        Check.same("finished", 1, x.run(4));
        Yards.slipIs(x, 0, 0, 0, 3, 1, 3, 0, 0, 0, 0, -1, -1, 0, 0, 2, 0);
        Texts.compile(x, 0, "take");
        Texts.compile(x, 1, RIB_ALONE);
        Texts.compile(x, 0, KEEPS_RIB);
        x.run(100);
        Yards.slipIs(x, 0, 0, 0, 3, 1, 3, 0, 0, 0, 0, -1, -1, 0, 0, 2, 0);
        x.start(0, 1, 0);
        Yards.slipIs(x, 0, 1, 1, 0, 0, 0, 0, 0, 0, 0, -1, -1, 0, 0, 0, 111);
        Check.same("lost in all", 2, x.count(6));
        Yards.hullIs(x, 0, 0, 0, 1, 3, 0, 11);
    }

    /** "otherwise it waits for it from this tick on (or waits on)": also if one is free in this tick. */
    private static void waitingFromTheFirstTickOn() {
        BendYard x = Yards.withSlips(1, RIB_ALONE);
        x.start(0, 0, 0);
        Yards.slipIs(x, 0, 1, 0, 0, 0, 0, 0, 0, 0, 0, -1, -1, 0, 0, 0, 0);
        x.addFrame(RIB);
        x.run(1);
        Yards.slipIs(x, 0, 1, 0, 0, 0, 0, 0, 0, 0, 0, RIB, 1, 0, 0, 0, 0);
        Yards.framesAre(x, RIB, 1, 1, 1);
        x.run(1);
        Yards.slipIs(x, 0, 1, 0, 1, 0, 0, 0, 0, 0, 0, -1, -1, 0, 4, 0, 0);
        Yards.framesAre(x, RIB, 1, 0, 0);
        x.run(1);
        Yards.slipIs(x, 0, 0, 0, 2, 0, 0, 0, 0, 0, 0, -1, -1, 0, 0, 0, 0);
        Yards.framesAre(x, RIB, 1, 1, 0);
        BendYard y = Yards.withSlips(1, RIB_ALONE);
        y.start(0, 0, 0);
        y.run(50);
        Check.same("waits on since the first tick", 1, y.slip(0, 10));
        y.addFrame(RIB);
        Yards.framesAre(y, RIB, 1, 1, 1);
        y.run(1);
        Yards.framesAre(y, RIB, 1, 0, 0);
    }

    /** "if a frame of the sort is free": as many as are free are given in one tick, by the tick and the number. */
    private static void asManyAsAreFree() {
        for (int frames = 0; frames <= 4; frames++) {
            BendYard x = Yards.withSlips(6, KEEPS_RIB);
            for (int i = 5; i >= 0; i--) {
                x.start(i, 0, 0);
            }
            for (int i = 0; i < frames; i++) {
                x.addFrame(RIB);
            }
            x.run(2);
            Yards.framesAre(x, RIB, frames, 0, 6 - frames);
            for (int i = 0; i < 6; i++) {
                Check.same("frames of slip " + i, i < frames ? 4 : 0, x.slip(i, 12));
            }
        }
        BendYard y = Yards.withSlips(4, KEEPS_RIB);
        for (int i = 3; i >= 0; i--) {
            y.start(i, 0, 0);
            y.run(1);
        }
        y.addFrame(RIB);
        y.addFrame(RIB);
        y.run(1);
        for (int i = 0; i < 4; i++) {
            Check.same("by the tick: slip " + i, i >= 2 ? 4 : 0, y.slip(i, 12));
        }
    }

    /** Who waits longer for a sort that is not free does not keep those back that wait for another one. */
    private static void waitingForAnotherSort() {
        BendYard x = Yards.withSlips(3, "take bow;give bow;", KEEPS_RIB);
        x.start(0, 0, 0);
        x.run(1);
        x.start(2, 0, 0);
        x.start(1, 1, 0);
        x.run(1);
        x.addFrame(RIB);
        x.run(1);
        Check.same("slip 1 holds the rib", 4, x.slip(1, 12));
        x.addFrame(BOW);
        x.run(1);
        Check.same("slip 0 holds the bow", 1, x.slip(0, 12));
        Check.same("slip 2 waits", BOW, x.slip(2, 9));
    }

    /** A frame that is given in a tick is free from then on, but those who wait get it in the next one. */
    private static void framesThatAreGivenInTheSameTick() {
        BendYard x = Yards.withSlips(3, RIB_ALONE);
        x.addFrame(RIB);
        x.start(1, 0, 0);
        x.run(1);
        x.start(0, 0, 0);
        x.run(1);
        x.start(2, 0, 0);
        // In this tick slip 1 gives the rib, and slip 2 takes behind it.
        Check.same("slip 1 is finished", 1, x.run(1));
        Yards.framesAre(x, RIB, 1, 1, 2);
        Check.same("slip 0 waits since its tick", 2, x.slip(0, 10));
        Check.same("slip 2 waits since this tick", 3, x.slip(2, 10));
        x.run(1);
        Check.same("slip 0 holds the rib", 4, x.slip(0, 12));
        Check.same("its take is done in this tick", 1, x.slip(0, 2));
        Yards.framesAre(x, RIB, 1, 0, 1);
    }

    /** "in ascending order of these ticks, of the same tick of their numbers": by take or because they lent it. */
    private static void lenderAndTakerOfTheSameTick() {
        whoGetsIt(0, 2, 0, 0);
        whoGetsIt(2, 0, 0, 0);
        whoGetsIt(0, 2, 1, 2);
        whoGetsIt(2, 0, 1, 0);
    }

    /** Slip 1 borrows a rib; the lender waits since a tick so much later than the taker. */
    private static void whoGetsIt(int lender, int taker, int later, int due) {
        BendYard x = Yards.withSlips(3, KEEPS_RIB, RIB_ALONE);
        x.addFrame(RIB);
        x.start(lender, 0, 0);
        x.run(2);
        x.start(1, 1, 0);
        x.run(1);
        x.start(taker, 0, 0);
        x.run(1 + later);
        Check.same("lend", 2, x.lend(lender, 1, RIB));
        Check.same("the lender waits since", 4 + later, x.slip(lender, 10));
        Check.same("the taker waits since", 4, x.slip(taker, 10));
        Check.same("slip 1 is finished", 1, x.run(2));
        x.run(1);
        Check.same("lender " + lender + ", taker " + taker + ", later " + later, 4, x.slip(due, 12));
        Check.same("the other one waits", RIB, x.slip(2 - due, 9));
    }

    /** Slips 0 and 1 hold a rib and a side and wait for the other one, slip 2 waits for a rib, slip 3 is idle. */
    private static BendYard crossed() {
        BendYard x = Yards.withSlips(4, "take rib;take side;give rib;give side;", "take side;take rib;give side;give rib;",
                RIB_ALONE);
        x.addFrame(RIB);
        x.addFrame(SIDE);
        x.start(0, 0, 0);
        x.start(1, 1, 0);
        x.run(3);
        x.start(2, 2, 0);
        x.run(1);
        return x;
    }

    /** The exceptions of lend in their order, at each edge. */
    private static void lendLimits() {
        BendYard x = crossed();
        for (int wrong : new int[] {MIN, -1, 4, 6, MAX}) {
            Check.refuses(x, "from " + wrong, Texts.BOUNDS, () -> x.lend(wrong, 1, RIB));
            Check.refuses(x, "to " + wrong, Texts.BOUNDS, () -> x.lend(0, wrong, RIB));
            Check.refuses(x, "from and to " + wrong, Texts.BOUNDS, () -> x.lend(wrong, wrong, 5));
        }
        for (int wrong : new int[] {MIN, -1, 5, 31, 32, 34, MAX}) {
            Check.refuses(x, "sort " + wrong, Texts.ARGUMENT, () -> x.lend(0, 1, wrong));
            Check.refuses(x, "sort " + wrong + " of an idle slip", Texts.ARGUMENT, () -> x.lend(3, 0, wrong));
        }
        for (int slip = 0; slip < 4; slip++) {
            int own = slip;
            Check.refuses(x, "lend to itself", Texts.ARGUMENT, () -> x.lend(own, own, RIB));
        }
        Check.refuses(x, "a frame that it does not hold", Texts.STATE, () -> x.lend(2, 1, RIB));
        Check.refuses(x, "a frame that the other one holds", Texts.STATE, () -> x.lend(0, 1, SIDE));
        Check.refuses(x, "to a slip that waits for another sort", Texts.STATE, () -> x.lend(1, 2, SIDE));
        Check.refuses(x, "to a slip that is idle", Texts.STATE, () -> x.lend(0, 3, RIB));
        Check.same("to a slip that waits for this sort", 2, x.lend(0, 2, RIB));
        Check.refuses(x, "by a slip that waits for what it lent", Texts.STATE, () -> x.lend(0, 1, RIB));
        Check.same("to the one that waited by take, no more", -1, x.slip(2, 9));
    }

    /** "or sort is not 0 to 4", "if there is no such slip": the first and the last of both are lent, and lend. */
    private static void lendOfEachSort() {
        for (int sort = 0; sort < 5; sort++) {
            int lent = sort;
            String frame = YardModel.FRAMES.get(sort);
            for (int from : new int[] {0, 5}) {
                int to = 5 - from;
                BendYard x = Yards.withSlips(6, "take " + frame + ";cut oak 20;bend 0 0 0;fit;give " + frame + ";");
                x.addFrame(sort);
                x.start(from, 0, 0);
                x.run(2);
                x.start(to, 0, 0);
                Check.refuses(x, "to a slip that does not wait yet", Texts.STATE, () -> x.lend(from, to, lent));
                x.run(1);
                Check.same("lend of a " + frame, 1, x.lend(from, to, sort));
                Yards.slipIs(x, from, 1, 0, 1, 0, 0, 0, 0, 0, 0, sort, 3, 1, 0, 0, 0);
                Yards.slipIs(x, to, 1, 0, 0, 0, 0, 0, 0, 0, 0, -1, -1, 0, 1 << sort, 0, 2);
                Yards.framesAre(x, sort, 1, 0, 1);
            }
        }
    }

    /** "or waits for a frame that it lent": also if it holds another one, for which the second one waits. */
    private static void lendOfOneOfTwo() {
        BendYard x = Yards.withSlips(3, "take rib;take side;take bow;give bow;give side;give rib;", RIB_ALONE,
                "take side;give side;");
        x.addFrame(RIB);
        x.addFrame(SIDE);
        x.start(0, 0, 0);
        x.run(5);
        x.start(1, 1, 0);
        x.start(2, 2, 0);
        x.run(1);
        Yards.slipIs(x, 0, 1, 0, 2, 0, 0, 0, 0, 0, 0, BOW, 5, 0, 12, 0, 0);
        Check.same("lend the side", 2, x.lend(0, 2, SIDE));
        Yards.slipIs(x, 0, 1, 0, 2, 0, 0, 0, 0, 0, 0, SIDE, 6, 1, 4, 0, 0);
        Yards.slipIs(x, 2, 1, 2, 0, 0, 0, 0, 0, 0, 0, -1, -1, 0, 8, 0, 5);
        Check.refuses(x, "lend the rib too", Texts.STATE, () -> x.lend(0, 1, RIB));
        Yards.framesAre(x, BOW, 0, 0, 0);
        Yards.framesAre(x, SIDE, 1, 0, 1);
    }

    /** A slip that has its frame again can lend it again, in the same tick. */
    private static void lendAgain() {
        BendYard x = Yards.withSlips(3, KEEPS_RIB, RIB_ALONE);
        x.addFrame(RIB);
        x.start(0, 0, 0);
        x.run(2);
        x.start(1, 1, 0);
        x.run(1);
        Check.same("lend", 1, x.lend(0, 1, RIB));
        x.start(2, 1, 0);
        Check.same("slip 1 is finished", 1, x.run(2));
        Check.refuses(x, "lend while the rib is free, but not had yet", Texts.STATE, () -> x.lend(0, 2, RIB));
        x.run(1);
        Yards.slipIs(x, 0, 1, 0, 1, 0, 0, 0, 0, 0, 0, -1, -1, 0, 4, 0, 0);
        Check.same("lend again", 1, x.lend(0, 2, RIB));
        Yards.slipIs(x, 0, 1, 0, 1, 0, 0, 0, 0, 0, 0, RIB, 6, 1, 0, 0, 0);
    }

    /** "(if it waited by take, it does so no more, till its turn in a tick)": then from that tick on. */
    private static void lenderLosesItsPlaceAmongTakers() {
        BendYard x = Yards.withSlips(3, "take rib;take side;give side;give rib;", RIB_ALONE, "take side;give side;");
        x.addFrame(RIB);
        x.start(0, 0, 0);
        x.run(3);
        x.start(1, 1, 0);
        x.start(2, 2, 0);
        x.run(1);
        Check.same("two wait for a side", 2, x.frames(SIDE, 2));
        Check.same("slip 0 waits longest", 3, x.slip(0, 10));
        Check.same("lend the rib", 2, x.lend(0, 1, RIB));
        Check.same("one waits for a side", 1, x.frames(SIDE, 2));
        x.run(2);
        Check.same("still one waits for a side", 1, x.frames(SIDE, 2));
        x.run(1);
        Yards.slipIs(x, 0, 1, 0, 1, 0, 0, 0, 0, 0, 0, SIDE, 7, 0, 4, 0, 0);
        x.addFrame(SIDE);
        x.run(1);
        Check.same("slip 2 is first now", 8, x.slip(2, 12));
        Check.same("slip 0 waits on", 7, x.slip(0, 10));
    }

    /** "Returns how many slips wait for frames then.": of all sorts, the lender among them. */
    private static void lendReturns() {
        BendYard x = Yards.withSlips(6, KEEPS_RIB, RIB_ALONE, "take bow;give bow;");
        x.addFrame(RIB);
        x.start(0, 0, 0);
        x.run(2);
        for (int i = 1; i < 6; i++) {
            x.start(i, i < 3 ? 1 : 2, 0);
        }
        x.run(1);
        Check.same("five wait", 5, x.count(4));
        Check.same("the lender in place of the borrower", 5, x.lend(0, 2, RIB));
        Check.same("five wait still", 5, x.count(4));
    }

    /** "Each slip that builds .. unless it waits for a frame that it lent: it does its action." */
    private static void actionsWhileLent() {
        BendYard x = Yards.withSlips(2, "take rib;cut fir 20;wet 9;heat 9;bend 1 1 1;fit;give rib;", RIB_ALONE);
        x.addFrame(RIB);
        x.addPlank(3, 20, 10);
        x.start(0, 0, 60);
        x.run(4);
        x.start(1, 1, 0);
        x.run(1);
        Yards.pieceIs(x, 2, 26, 20, 0);
        x.lend(0, 1, RIB);
        x.run(2);
        Yards.pieceIs(x, 2, 26, 20, 0);
        x.run(1);
        Yards.pieceIs(x, 2, 34, 20, 0);
        x.run(5);
        Yards.pieceIs(x, 2, 74, 20, 0);
        x.run(1);
        Yards.pieceIs(x, 3, 82, 20, 0);
    }

    /** "if there is no such slip, or what is not 0 to 14" */
    private static void tellingOfSlips() {
        BendYard x = Yards.withSlips(5);
        for (int wrong : new int[] {MIN, -1, 5, 6, MAX}) {
            Check.refuses(x, "slip(" + wrong + ", 0)", Texts.BOUNDS, () -> x.slip(wrong, 0));
            Check.refuses(x, "bend(" + wrong + ", 0)", Texts.BOUNDS, () -> x.bend(wrong, 0, false));
        }
        for (int wrong : new int[] {MIN, -1, 15, MAX}) {
            Check.refuses(x, "slip(4, " + wrong + ")", Texts.BOUNDS, () -> x.slip(4, wrong));
        }
        Check.same("the last fact of the last slip", -1, x.slip(4, 14));
    }

    /** "or index is not 0 to 2", "0 without one": also when the piece is a part of the hull, or lost. */
    private static void tellingOfBends() {
        BendYard x = Yards.building("cut fir 20;bend 1 2 3;fit;", 3, 20, 0, 0);
        for (int wrong : new int[] {MIN, -1, 3, MAX}) {
            Check.refuses(x, "bend of index " + wrong, Texts.BOUNDS, () -> x.bend(0, wrong, false));
            Check.refuses(x, "target of index " + wrong, Texts.BOUNDS, () -> x.bend(0, wrong, true));
        }
        Yards.bendsAre(x, 0, 0, 0, 0, 0, 0);
        x.run(1);
        Yards.bendsAre(x, 0, 0, 0, 0, 0, 0);
        x.run(1);
        Yards.bendsAre(x, 1, 1, 1, 1, 2, 3);
        x.run(2);
        Yards.bendsAre(x, 1, 2, 3, 1, 2, 3);
        x.run(1);
        Check.same("a part", 1, x.slip(0, 3));
        Yards.bendsAre(x, 0, 0, 0, 0, 0, 0);
    }

    /** Slips that are idle, or build without waiting, or wait for a frame that is free, do not wait for good. */
    private static void noneIsStuck() {
        BendYard x = new BendYard();
        Check.same("no slips", 0, x.stuck());
        for (int i = 0; i < 6; i++) {
            x.addSlip();
            Check.same("idle slips", 0, x.stuck());
        }
        Texts.compile(x, 0, KEEPS_RIB);
        x.start(3, 0, 0);
        Check.same("a slip that does not wait yet", 0, x.stuck());
        x.run(1);
        Check.same("no rib at all", 8, x.stuck());
        x.addFrame(SIDE);
        Check.same("a side does not help", 8, x.stuck());
        x.addFrame(RIB);
        Check.same("a rib that is free", 0, x.stuck());
        x.run(1);
        x.start(1, 0, 0);
        x.run(1);
        Check.same("a slip without wood could end", 0, x.stuck());
        Check.same("foreseen likewise", 0, x.foresee(200, 2));
    }

    /** "(as the sum of the powers 2^k of their numbers k)" */
    private static void eachSlipAlone() {
        for (int slip = 0; slip < 6; slip++) {
            BendYard x = Yards.withSlips(6, RIB_ALONE);
            x.start(slip, 0, 0);
            x.run(1);
            Check.same("slip " + slip + " alone", 1 << slip, x.stuck());
        }
        BendYard y = Yards.withSlips(6, RIB_ALONE);
        for (int i = 0; i < 6; i++) {
            y.start(i, 0, 0);
        }
        Check.same("all, foreseen", 63, y.foresee(1, 2));
        y.run(1);
        Check.same("all", 63, y.stuck());
    }

    /** Each slip holds the frame of its number, and waits for the next one; the last one for that of slip 0, or none. */
    private static BendYard ring(boolean isClosed, boolean isUpwards) {
        BendYard x = new BendYard();
        for (int i = 0; i < 5; i++) {
            String own = YardModel.FRAMES.get(i);
            String next = YardModel.FRAMES.get((i + 1) % 5);
            boolean isOpenEnd = i == 4 && !isClosed;
            String inside = isOpenEnd ? "cut oak 20;bend 0 0 0;fit;" : "take " + next + ";give " + next + ";";
            Check.same("plan " + i, 0, Texts.compile(x, i, "take " + own + ";" + inside + "give " + own + ";"));
            x.addSlip();
            x.addFrame(i);
        }
        for (int i = 0; i < 5; i++) {
            x.start(isUpwards ? i : 4 - i, i, 0);
        }
        x.run(3);
        return x;
    }

    /** "Slips that are not reached so wait for good.": one frame more of any sort lets all of a ring end. */
    private static void aRingOfSlips() {
        for (int sort = 0; sort < 5; sort++) {
            for (boolean isUpwards : new boolean[] {false, true}) {
                BendYard x = ring(true, isUpwards);
                Check.same("all wait", 5, x.count(4));
                Check.same("all wait for good", 31, x.stuck());
                x.addFrame(sort);
                Check.same("none waits for good", 0, x.stuck());
                Check.same("all end", 5, x.run(60));
            }
        }
        BendYard y = ring(true, true);
        Check.same("none ends", 0, y.run(200));
        Check.same("all wait for good still", 31, y.stuck());
    }

    /** "and give what they hold; so could those that wait for a frame of which one .. is given so; and so on" */
    private static void aChainOfSlips() {
        for (boolean isUpwards : new boolean[] {false, true}) {
            BendYard x = ring(false, isUpwards);
            Check.same("four wait", 4, x.count(4));
            Check.same("none waits for good", 0, x.stuck());
            x.addPlank(0, 20, 0);
            Check.same("all end", 5, x.run(60));
        }
    }

    /** Who lent a frame waits for good if the one that has it does, and then alone is reached if that one could end. */
    private static void stuckBehindLending() {
        BendYard x = Yards.withSlips(2, KEEPS_RIB, "take side;take rib;take bow;give bow;give rib;give side;");
        x.addFrame(RIB);
        x.addFrame(SIDE);
        x.start(0, 0, 0);
        x.start(1, 1, 0);
        x.run(3);
        Check.same("slip 0 waits for no frame", 0, x.stuck());
        Check.same("lend", 1, x.lend(0, 1, RIB));
        Check.same("slip 1 does not wait yet", 0, x.stuck());
        x.run(2);
        Check.same("both wait for good", 3, x.stuck());
        x.addFrame(RIB);
        Check.same("a rib more for slip 0", 2, x.stuck());
        x.run(1);
        Check.same("slip 0 goes on", 4, x.slip(0, 12));
        Check.same("slip 1 waits for good", 2, x.stuck());
        x.addFrame(BOW);
        Check.same("a bow for slip 1", 0, x.stuck());
    }

    /** A slip is reached if one of the slips that hold its sort could end, though the other one could not. */
    private static void oneOfTwoFrames() {
        BendYard x = Yards.withSlips(3, "take rib;take bow;give bow;give rib;", KEEPS_RIB, RIB_ALONE);
        x.addFrame(RIB);
        x.addFrame(RIB);
        for (int i = 0; i < 3; i++) {
            x.start(i, i, 0);
        }
        x.run(3);
        Check.same("slip 2 waits", RIB, x.slip(2, 9));
        Check.same("only slip 0 waits for good", 1, x.stuck());
        x.lend(1, 2, RIB);
        Check.same("slip 1 gets it from slip 2 again", 1, x.stuck());
    }
}
