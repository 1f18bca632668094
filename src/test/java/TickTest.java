/** Promises 19 to 24: run, count, hull, foresee, flaw, digest, and what a tick does to a piece. */
public final class TickTest {
    private static final String BARE = "take rib; give rib;";

    public static void main(String[] args) {
        run();
        runSoManyTicks();
        count();
        wetAndHeatHaveLimits();
        holdHasLimits();
        burning();
        notBurning();
        stiffnesses();
        cracks();
        cracksCoolToo();
        bendComesBack();
        fitAndTolerance();
        lostPieceBeginsAnew();
        framesStayWhenAPieceIsLost();
        waitingLeavesThePiece();
        lendingLeavesThePiece();
        bendsStayAsTheyAre();
        holdWithoutAFrame();
        takeAgainBehindALoss();
        oneOfASort();
        toleranceOfEachPiece();
        lossLeavesTheParts();
        twoSlipsCutInOrder();
        hulls();
        hullsBeyondForty();
        foresee();
        foreseeChangesNothing();
        foreseeIsWhatComes();
        foreseeWithCracks();
        foreseeOfAPieceThatIsThere();
        foreseeByTheOldPlan();
        foreseeForgetsWhatItForesaw();
        flaw();
        flawOfFinishedHullsAlone();
        digest();
        digestOfIdleSlips();
        Check.end("TickTest");
    }

    private static void run() {
        BendYard x = new BendYard();
        Check.refuses(x, "run(0)", Texts.ARGUMENT, () -> x.run(0));
        Check.refuses(x, "run(-1)", Texts.ARGUMENT, () -> x.run(-1));
        Check.refuses(x, "run(201)", Texts.ARGUMENT, () -> x.run(201));
        Check.same("run(200)", 0, x.run(200));
        Check.same("run(1)", 0, x.run(1));
        Check.same("tick", 201, x.count(0));
        Texts.compile(x, 0, BARE);
        for (int i = 0; i < 4; i++) {
            x.addSlip();
            x.addFrame(2);
            x.start(i, 0, 0);
        }
        Check.same("none is finished", 0, x.run(2));
        Check.same("four are finished in a tick", 4, x.run(1));
        Check.same("none any more", 0, x.run(1));
    }

    private static void runSoManyTicks() {
        BendYard x = new BendYard();
        int tick = 0;
        for (int ticks = 1; ticks <= 200; ticks++) {
            x.run(ticks);
            tick += ticks;
            Check.same("tick behind run(" + ticks + ")", tick, x.count(0));
        }
    }

    private static void count() {
        BendYard x = new BendYard();
        Check.refuses(x, "count(-1)", Texts.BOUNDS, () -> x.count(-1));
        Check.refuses(x, "count(9)", Texts.BOUNDS, () -> x.count(9));
        Texts.compile(x, 0, BARE);
        Texts.compile(x, 1, "cut oak 20; bend 9 9 9; fit;");
        x.addPlank(0, 55, 0);
        x.addPlank(1, 70, 0);
        x.addKnot(0, 5);
        for (int i = 0; i < 4; i++) {
            x.addSlip();
        }
        x.addFrame(2);
        x.start(0, 0, 0);
        x.start(1, 0, 0);
        x.start(2, 1, 0);
        x.run(1);
        Yards.countsAre(x, 1, 3, 4, 3, 2, 0, 0, 6, 99);
        x.run(2);
        Yards.countsAre(x, 3, 3, 4, 2, 1, 1, 0, 6, 99);
        x.run(1);
        Yards.countsAre(x, 4, 3, 4, 2, 0, 1, 1, 6, 99);
        x.run(1);
        Yards.countsAre(x, 5, 3, 4, 1, 0, 2, 1, 15, 70);
        x.run(10);
        Yards.countsAre(x, 15, 3, 4, 1, 0, 2, 2, 15, 70);
    }

    private static void wetAndHeatHaveLimits() {
        BendYard x = Yards.building("cut fir 20; heat 8; wet 30; bend 0 0 0; fit;", 3, 20, 99, 0);
        x.run(2);
        Yards.pieceIs(x, 1, 96, 45, 0);
        x.run(6);
        Yards.pieceIs(x, 1, 78, 195, 0);
        x.run(1);
        Yards.pieceIs(x, 2, 75, 200, 0);
        x.run(1);
        Yards.pieceIs(x, 2, 83, 190, 0);
        x.run(2);
        Yards.pieceIs(x, 2, 99, 170, 0);
        x.run(1);
        Yards.pieceIs(x, 2, 100, 160, 0);
        x.run(14);
        Yards.pieceIs(x, 2, 100, 20, 0);
        x.run(11);
        Yards.pieceIs(x, 2, 100, 20, 0);
        x.run(1);
        Yards.pieceIs(x, 3, 100, 20, 0);
    }

    private static void holdHasLimits() {
        BendYard x = Yards.building("take rib; cut fir 20; heat 2; hold 4; bend 0 0 0; fit; give rib;", 3, 20, 15, 0);
        x.addFrame(2);
        x.run(5);
        Yards.pieceIs(x, 3, 9, 70, 0);
        x.run(1);
        Yards.pieceIs(x, 3, 5, 55, 0);
        x.run(2);
        Yards.pieceIs(x, 3, 0, 25, 0);
        x.run(1);
        Yards.pieceIs(x, 4, 0, 20, 0);
        x.run(1);
        Yards.pieceIs(x, 5, 0, 20, 0);
    }

    private static void burning() {
        BendYard x = Yards.building("cut fir 20; heat 10; bend 0 0 0; fit;", 3, 20, 12, 0);
        x.run(6);
        Yards.pieceIs(x, 1, 0, 145, 0);
        Check.same("nothing is lost yet", 0, x.count(6));
        x.run(1);
        Yards.pieceIs(x, 0, 0, 0, 0);
        Check.same("there is no piece", 0, x.slip(0, 5));
        Check.same("a piece is lost", 1, x.count(6));
        Check.same("by the slip", 1, x.slip(0, 13));
        BendYard y = Yards.building("cut fir 20; heat 6; bend 0 0 0; fit;", 3, 20, 12, 0);
        y.run(7);
        Check.same("burnt in the last tick of heat", 1, y.count(6));
        Check.same("cut again", 0, y.slip(0, 2));
    }

    private static void notBurning() {
        BendYard x = Yards.building("cut fir 20; heat 3; wet 2; heat 4; bend 0 0 0; fit;", 3, 20, 0, 0);
        x.run(9);
        Yards.pieceIs(x, 3, 7, 150, 0);
        x.run(1);
        Yards.pieceIs(x, 0, 0, 0, 0);
        BendYard y = Yards.building("cut fir 20; heat 7; bend 0 0 0; fit;", 3, 20, 28, 0);
        y.run(7);
        Yards.pieceIs(y, 1, 10, 170, 0);
        y.run(1);
        Yards.pieceIs(y, 0, 0, 0, 0);
    }

    private static void stiffnesses() {
        stepsOfWoods(80, 2, 3, 4, 5);
        stepsOfWoods(100, 3, 4, 4, 6);
        stepsOfWoods(20, 1, 1, 1, 2);
    }

    private static void stepsOfWoods(int wetness, int... steps) {
        for (int wood = 0; wood < 4; wood++) {
            String name = YardModel.WOODS.get(wood);
            BendYard x = Yards.building("cut " + name + " 20; bend 40 0 3; fit;", wood, 20, wetness, 0);
            x.run(2);
            Check.same("step of " + name, steps[wood], x.bend(0, 0, false));
            Check.same("no step", 0, x.bend(0, 1, false));
            Check.same("last step", Math.min(3, steps[wood]), x.bend(0, 2, false));
            Yards.pieceIs(x, 1, wetness - 1, 20, 0);
        }
    }

    private static void cracks() {
        BendYard x = Yards.building("cut oak 20; bend 1 0 0; fit;", 0, 20, 2, 0);
        x.run(2);
        Yards.pieceIs(x, 1, 1, 20, 1);
        x.run(1);
        Yards.pieceIs(x, 1, 0, 20, 2);
        Check.same("target of a piece with cracks", 1, x.bend(0, 0, true));
        x.run(1);
        Yards.pieceIs(x, 0, 0, 0, 0);
        Check.same("broken", 1, x.count(6));
        Check.same("no target without a piece", 0, x.bend(0, 0, true));
        BendYard y = Yards.building("cut oak 20; bend 0 0 0; bend 0 0 0; bend 0 0 0; fit;", 0, 20, 2, 0);
        y.run(4);
        Yards.pieceIs(y, 4, 0, 20, 0);
    }

    private static void cracksCoolToo() {
        BendYard x = Yards.building("cut oak 20; heat 1; bend 5 0 0; fit;", 0, 20, 3, 0);
        x.run(3);
        Yards.pieceIs(x, 2, 0, 35, 0);
        Check.same("bent by 1", 1, x.bend(0, 0, false));
        x.run(1);
        Yards.pieceIs(x, 2, 0, 25, 1);
        x.run(1);
        Yards.pieceIs(x, 2, 0, 20, 2);
        Check.same("not bent any more", 1, x.bend(0, 0, false));
        x.run(1);
        Yards.pieceIs(x, 0, 0, 0, 0);
    }

    private static void bendComesBack() {
        BendYard x = Yards.building("cut fir 20; bend 5 5 0; bend 0 4 1; fit;", 3, 20, 100, 0);
        x.run(3);
        Check.same("bend 0", 0, x.bend(0, 0, false));
        Check.same("bend 1", 4, x.bend(0, 1, false));
        Check.same("bend 2", 1, x.bend(0, 2, false));
        Yards.pieceIs(x, 3, 98, 20, 0);
    }

    private static void fitAndTolerance() {
        // Behind the bend the wetness is 99: each bend of 6 springs back by 2.
        BendYard x = Yards.building("cut fir 20; bend 6 6 6; fit;", 3, 20, 100, 6);
        Check.same("flaw as the tolerance", 1, x.run(3));
        Check.same("flaw of the hull", 6, x.slip(0, 4));
        Check.same("parts of the hull", 1, x.slip(0, 3));
        Check.same("nothing is lost", 0, x.count(6));
        BendYard y = Yards.building("cut fir 20; bend 6 6 6; fit;", 3, 20, 100, 5);
        Check.same("flaw above the tolerance", 0, y.run(3));
        Check.same("thrown away", 1, y.count(6));
        Check.same("cut again", 0, y.slip(0, 2));
        Check.same("no flaw of the hull", 0, y.slip(0, 4));
        Check.same("no parts of the hull", 0, y.slip(0, 3));
        // 200 * (80 + 20) / 400 is 50: bent in one tick, with a wetness of 80 at the end.
        BendYard z = Yards.building("cut fir 20; heat 8; wet 1; bend 40 5 3; fit;", 3, 20, 97, 60);
        z.run(11);
        Yards.pieceIs(z, 4, 80, 180, 0);
        z.run(1);
        Check.same("40 * 80 / 200, 5 * 80 / 200 and 3 * 80 / 200", 16 + 2 + 1, z.slip(0, 4));
    }

    private static void lostPieceBeginsAnew() {
        BendYard x = Yards.building("take rib; cut fir 20; bend 0 0 0; fit; cut fir 20; wet 3; bend 9 0 0; fit; give rib;", 3, 60, 100, 3);
        x.addFrame(2);
        x.run(5);
        Check.same("first part", 1, x.slip(0, 3));
        x.run(7);
        Check.same("second part is lost", 1, x.slip(0, 13));
        Check.same("it goes on with the second cut", 4, x.slip(0, 2));
        Check.same("the first part stays", 1, x.slip(0, 3));
        Check.same("it holds its frame", 4, x.slip(0, 12));
        x.run(1);
        Check.same("cut again in the next tick", 1, x.slip(0, 5));
        x.run(2);
        Check.same("two ticks of wet", 5, x.slip(0, 2));
        x.run(1);
        Check.same("three ticks of wet", 6, x.slip(0, 2));
        BendYard y = Yards.building("cut fir 10; heat 6; bend 0 0 0; fit;", 3, 10, 12, 0);
        y.addPlank(3, 20, 40);
        y.run(7);
        Check.same("burnt in the sixth tick of heat", 1, y.slip(0, 13));
        y.run(6);
        Check.same("five ticks of heat anew", 1, y.slip(0, 2));
        y.run(1);
        Check.same("six ticks of heat anew", 2, y.slip(0, 2));
        Check.same("a hull in spite of a loss", 1, y.run(2));
        Check.same("lost for the hull that is told still", 1, y.slip(0, 13));
        y.start(0, 0, 0);
        Check.same("lost for the next hull", 0, y.slip(0, 13));
        Check.same("lost in all", 1, y.count(6));
    }

    private static void framesStayWhenAPieceIsLost() {
        BendYard x = Yards.building("take bow; cut fir 10; give bow; take rib; bend 9 0 0; fit; give rib;", 3, 20, 100, 3);
        x.addFrame(0);
        x.addFrame(2);
        x.run(7);
        Check.same("bent to 6", 6, x.bend(0, 0, false));
        x.run(2);
        Check.same("lost", 1, x.slip(0, 13));
        Check.same("only the rib is held", 4, x.slip(0, 12));
        x.run(2);
        Check.same("give of a bow that it does not hold", 3, x.slip(0, 2));
        Check.same("one bow is free", 1, x.frames(0, 1));
        x.run(1);
        Check.same("take of a rib that it holds", 4, x.slip(0, 2));
        Check.same("it does not wait", -1, x.slip(0, 9));
        Check.same("no rib is free", 0, x.frames(2, 1));
    }

    /** Slip 0: wetness, heat, and the bends and targets, which are the same. */
    private static void bentPieceIs(BendYard x, int wetness, int heat, int... bends) {
        Check.same("wetness at " + x.count(0), wetness, x.slip(0, 6));
        Check.same("heat at " + x.count(0), heat, x.slip(0, 7));
        Yards.bendsAre(x, bends[0], bends[1], bends[2], bends[0], bends[1], bends[2]);
    }

    /** Waiting for a frame, taking and giving it leave the piece as it is. */
    private static void waitingLeavesThePiece() {
        BendYard x = Yards.building("cut fir 20; heat 2; bend 2 3 4; take rib; take bow; give bow; give rib; fit;", 3, 20, 60, 60);
        x.run(4);
        // 70 * 74 / 400 is 12.
        bentPieceIs(x, 53, 60, 2, 3, 4);
        for (int i = 0; i < 6; i++) {
            x.run(1);
            bentPieceIs(x, 53, 60, 2, 3, 4);
        }
        Check.same("waits for a rib", 2, x.slip(0, 9));
        x.addFrame(2);
        x.addFrame(0);
        for (int actions : new int[] {4, 4, 5, 6, 7}) {
            x.run(1);
            Check.same("actions", actions, x.slip(0, 2));
            bentPieceIs(x, 53, 60, 2, 3, 4);
        }
        Check.same("finished", 1, x.run(1));
        Check.same("flaw of 3 * 53 / 200 and 4 * 53 / 200", 1, x.slip(0, 4));
    }

    /** A slip that waits for what it lent leaves its piece as it is. */
    private static void lendingLeavesThePiece() {
        BendYard x = Yards.building("take rib; cut fir 20; heat 4; bend 2 3 4; hold 9; fit; give rib;", 3, 20, 60, 60);
        Texts.compile(x, 1, "take rib; cut oak 20; bend 0 0 0; fit; give rib;");
        x.addFrame(2);
        x.addSlip();
        x.run(8);
        // 120 * 68 / 400 is 20.
        bentPieceIs(x, 47, 110, 2, 3, 4);
        x.start(1, 1, 0);
        x.run(1);
        bentPieceIs(x, 43, 95, 2, 3, 4);
        x.lend(0, 1, 2);
        for (int i = 0; i < 6; i++) {
            x.run(1);
            bentPieceIs(x, 43, 95, 2, 3, 4);
        }
        x.addFrame(2);
        x.run(1);
        bentPieceIs(x, 39, 80, 2, 3, 4);
    }

    /** Wet, heat and hold change neither the bends nor the targets. */
    private static void bendsStayAsTheyAre() {
        BendYard x = Yards.building("take rib; cut fir 20; bend 5 4 3; wet 3; heat 4; hold 2; fit; give rib;", 3, 20, 100, 60);
        x.addFrame(2);
        x.run(4);
        int[] wetness = {99, 100, 100, 100, 97, 94, 91, 88, 84, 80};
        int[] heats = {20, 20, 20, 20, 45, 70, 95, 120, 105, 90};
        for (int i = 0; i < wetness.length; i++) {
            bentPieceIs(x, wetness[i], heats[i], 5, 4, 3);
            x.run(1);
        }
        // 5 * 80 / 200 is 2, 4 * 80 / 200 and 3 * 80 / 200 are 1.
        Check.same("flaw", 4, x.slip(0, 4));
    }

    /** A piece that is begun anew is held without the frame that was given behind the hold. */
    private static void holdWithoutAFrame() {
        BendYard x = Yards.building("take rib; cut fir 20; hold 2; give rib; bend 6 6 6; fit;", 3, 20, 100, 5);
        x.addPlank(3, 21, 52);
        x.addFrame(2);
        x.run(8);
        // Behind the hold 20 * 112 / 400 and 20 * 111 / 400 are 5.
        Yards.pieceIs(x, 5, 90, 20, 0);
        x.run(1);
        // 6 * 90 / 200 is 2, thrice.
        Check.same("thrown away", 1, x.slip(0, 13));
        x.run(1);
        Yards.pieceIs(x, 2, 51, 20, 0);
        Check.same("no frame", 0, x.slip(0, 12));
        x.run(1);
        Yards.pieceIs(x, 2, 47, 20, 0);
        x.run(1);
        Yards.pieceIs(x, 3, 43, 20, 0);
        x.run(1);
        Yards.pieceIs(x, 4, 43, 20, 0);
        Yards.framesAre(x, 2, 1, 1, 0);
        Check.same("finished", 1, x.run(3));
        Yards.hullIs(x, 0, 0, 0, 1, 3, 0, 16);
    }

    /** A frame that was taken and given since the cut has to be waited for again. */
    private static void takeAgainBehindALoss() {
        BendYard x = Yards.building("cut fir 20; take rib; bend 6 6 6; give rib; fit;", 3, 40, 100, 5);
        x.addFrame(2);
        x.run(6);
        Check.same("thrown away", 1, x.slip(0, 13));
        Check.same("the rib is free", 1, x.frames(2, 1));
        x.run(2);
        Yards.slipIs(x, 0, 1, 0, 1, 0, 0, 1, 99, 20, 0, 2, 8, 0, 0, 1, 0);
        Check.same("the rib is free still", 1, x.frames(2, 1));
        x.run(1);
        Yards.slipIs(x, 0, 1, 0, 2, 0, 0, 1, 99, 20, 0, -1, -1, 0, 4, 1, 0);
    }

    /** "a slip holds at most one of a sort": a take of one that it holds leaves the others free. */
    private static void oneOfASort() {
        BendYard x = Yards.building("cut fir 20; take rib; bend 6 6 6; fit; give rib;", 3, 40, 100, 5);
        x.addFrame(2);
        x.addFrame(2);
        x.run(5);
        Check.same("thrown away", 1, x.slip(0, 13));
        Yards.framesAre(x, 2, 2, 1, 0);
        x.run(2);
        Check.same("the take is done", 2, x.slip(0, 2));
        Yards.framesAre(x, 2, 2, 1, 0);
        Check.same("it holds one", 4, x.slip(0, 12));
        x.addPlank(3, 20, 20);
        Check.same("finished", 1, x.run(40));
        Yards.framesAre(x, 2, 2, 2, 0);
    }

    /** "If it is at most the tolerance of the slip": the flaw of the piece, not that of the hull. */
    private static void toleranceOfEachPiece() {
        BendYard x = Yards.building("times 3{cut fir 20;bend 6 6 6;fit;}", 3, 60, 100, 6);
        int[] flaws = {0, 0, 6, 6, 6, 12, 12, 12, 12, 18};
        for (int flaw : flaws) {
            x.run(1);
            Check.same("flaw of the hull at " + x.count(0), flaw, x.slip(0, 4));
            Check.same("parts at " + x.count(0), flaw / 6, x.slip(0, 3));
        }
        Check.same("none was lost", 0, x.count(6));
        Yards.hullIs(x, 0, 0, 0, 3, 18, 0, 10);
    }

    /** When a piece is lost, the parts of the hull and their flaw stay, and it is counted by the slip and in all. */
    private static void lossLeavesTheParts() {
        BendYard x = Yards.building("cut fir 20;bend 6 6 6;fit;cut fir 20;bend 7 7 9;fit;", 3, 60, 100, 6);
        x.run(7);
        // 7 * 98 / 200 is 3 and 9 * 98 / 200 is 4.
        Yards.slipIs(x, 0, 1, 0, 3, 1, 6, 0, 0, 0, 0, -1, -1, 0, 0, 1, 0);
        Check.same("lost in all", 1, x.count(6));
        x.addPlank(3, 20, 21);
        x.run(4);
        Check.same("lost in all", 2, x.count(6));
        Yards.slipIs(x, 0, 1, 0, 3, 1, 6, 0, 0, 0, 0, -1, -1, 0, 0, 2, 0);
        // 20 * 40 / 400 is 2, then it is 1: eight ticks, and nothing springs back by a wetness of 12.
        Check.same("not bent yet", 0, x.run(9));
        Check.same("finished", 1, x.run(1));
        Yards.slipIs(x, 0, 0, 0, 6, 2, 6, 0, 0, 0, 0, -1, -1, 0, 0, 2, 0);
    }

    private static void twoSlipsCutInOrder() {
        BendYard x = new BendYard();
        Texts.compile(x, 0, "cut oak 30; bend 0 0 0; fit;");
        x.addSlip();
        x.addSlip();
        x.addPlank(0, 70, 90);
        x.addPlank(0, 40, 10);
        x.start(1, 0, 0);
        x.start(0, 0, 0);
        x.run(1);
        Check.same("slip 0 has the shorter plank", 10, x.slip(0, 6));
        Check.same("slip 1 has the other one", 90, x.slip(1, 6));
        Check.same("what is left of the shorter one", 10, x.plank(2, 1));
        Check.same("what is left of the other one", 40, x.plank(3, 1));
    }

    private static void hulls() {
        BendYard x = new BendYard();
        Texts.compile(x, 4, "cut fir 20; bend 6 6 6; fit; cut fir 20; bend 6 6 6; fit;");
        Texts.compile(x, 5, BARE);
        x.addSlip();
        x.addSlip();
        x.addSlip();
        x.addPlank(3, 40, 100);
        x.addFrame(2);
        x.start(2, 4, 30);
        x.run(2);
        x.start(1, 5, 0);
        x.start(0, 5, 0);
        x.run(3);
        Yards.hullIs(x, 0, 0, 5, 0, 0, 2, 5);
        Check.refuses(x, "hull(1, 0)", Texts.BOUNDS, () -> x.hull(1, 0));
        Check.refuses(x, "hull(-1, 0)", Texts.BOUNDS, () -> x.hull(-1, 0));
        Check.refuses(x, "hull(0, -1)", Texts.BOUNDS, () -> x.hull(0, -1));
        Check.refuses(x, "hull(0, 6)", Texts.BOUNDS, () -> x.hull(0, 6));
        x.run(2);
        Yards.hullIs(x, 1, 2, 4, 2, 12, 0, 6);
        Yards.hullIs(x, 2, 1, 5, 0, 0, 2, 7);
    }

    private static void hullsBeyondForty() {
        BendYard x = new BendYard();
        Texts.compile(x, 0, BARE);
        for (int i = 0; i < 6; i++) {
            x.addSlip();
        }
        for (int i = 0; i < 4; i++) {
            x.addFrame(2);
        }
        for (int round = 0; round < 7; round++) {
            for (int i = 0; i < 6; i++) {
                x.start(i, 0, 0);
            }
            Check.same("six hulls", 6, x.run(5));
        }
        Check.same("hulls that were finished", 42, x.count(5));
        Check.same("slip of the last that is kept", 3, x.hull(39, 0));
        Check.same("tick of the last that is kept", 33, x.hull(39, 5));
        Check.refuses(x, "hull(40, 0)", Texts.BOUNDS, () -> x.hull(40, 0));
        Check.sameDouble("flaw of forty hulls without parts", 0.0, x.flaw());
        x.start(5, 0, 0);
        Check.same("foresee beyond forty", 33 + 5, x.foresee(9, 3));
        Check.same("one more", 1, x.run(3));
        Check.same("slip of the first", 0, x.hull(0, 0));
    }

    private static void foresee() {
        BendYard x = Yards.building("cut fir 20; bend 6 6 6; fit;", 3, 40, 100, 5);
        x.addSlip();
        x.addFrame(2);
        Texts.compile(x, 1, "take rib; take bow; give rib; give bow;");
        Texts.compile(x, 2, BARE);
        x.start(1, 2, 0);
        Check.same("hulls in 2", 0, x.foresee(2, 0));
        Check.same("hulls in 3", 1, x.foresee(3, 0));
        Check.same("hulls in 200", 1, x.foresee(200, 0));
        Check.same("lost in 2", 0, x.foresee(2, 1));
        Check.same("lost in 3", 1, x.foresee(3, 1));
        Check.same("lost in 6", 2, x.foresee(6, 1));
        Check.same("lost in 200", 2, x.foresee(200, 1));
        Check.same("no first in 2", -1, x.foresee(2, 3));
        Check.same("first in 3", 3, x.foresee(3, 3));
        Check.same("first in 200", 3, x.foresee(200, 3));
        x.run(3);
        Check.same("hulls from 3 on", 0, x.foresee(100, 0));
        Check.same("lost from 3 on", 1, x.foresee(100, 1));
        Check.same("no first from 3 on", -1, x.foresee(100, 3));
        x.start(1, 1, 0);
        Check.same("stuck in 2", 0, x.foresee(2, 2));
        Check.same("stuck in 3", 2, x.foresee(3, 2));
        Check.same("stuck now", 0, x.stuck());
        x.addFrame(0);
        Check.same("stuck with a bow", 0, x.foresee(200, 2));
        Check.same("first with a bow", 9, x.foresee(200, 3));
        Check.refuses(x, "foresee(0, 0)", Texts.ARGUMENT, () -> x.foresee(0, 0));
        Check.refuses(x, "foresee(201, 0)", Texts.ARGUMENT, () -> x.foresee(201, 0));
        Check.refuses(x, "foresee(-1, 4)", Texts.ARGUMENT, () -> x.foresee(-1, 4));
        Check.refuses(x, "foresee(1, 4)", Texts.BOUNDS, () -> x.foresee(1, 4));
        Check.refuses(x, "foresee(1, -1)", Texts.BOUNDS, () -> x.foresee(1, -1));
    }

    private static void foreseeChangesNothing() {
        BendYard x = Yards.building("times 3 { cut fir 20; wet 2; heat 3; bend 6 9 6; fit; }", 3, 150, 50, 50);
        for (int i = 0; i < 30; i++) {
            long before = x.digest();
            for (int what = 0; what < 4; what++) {
                x.foresee(1 + i * 6, what);
            }
            Check.same("digest behind foresee", before, x.digest());
            x.run(1);
        }
        Check.same("hulls at the end", 1, x.count(5));
    }

    /** What is foreseen at each tick of a busy yard is what comes in a second one that is made by the same calls. */
    private static void foreseeIsWhatComes() {
        for (int ticks : new int[] {1, 7, 23, 90}) {
            BendYard x = busyYard();
            for (int past = 1; past < 60; past++) {
                x.run(1);
                BendYard y = busyYard();
                y.run(past);
                int lost = y.count(6);
                int first = -1;
                int hulls = 0;
                for (int i = 0; i < ticks; i++) {
                    hulls += y.run(1);
                    first = first < 0 && hulls > 0 ? y.count(0) : first;
                }
                String when = " of " + ticks + " ticks from " + past;
                Check.same("hulls" + when, hulls, x.foresee(ticks, 0));
                Check.same("lost" + when, y.count(6) - lost, x.foresee(ticks, 1));
                Check.same("stuck" + when, y.stuck(), x.foresee(ticks, 2));
                Check.same("first" + when, first, x.foresee(ticks, 3));
            }
        }
    }

    private static void foreseeWithCracks() {
        BendYard x = Yards.building("cut oak 20; bend 1 0 0; fit;", 0, 20, 2, 0);
        for (int past = 0; past < 4; past++) {
            Check.same("lost in 3 from " + past, past == 0 ? 0 : 1, x.foresee(3, 1));
            Check.same("lost in " + (3 - past) + " from " + past, 0, past == 3 ? 0 : x.foresee(3 - past, 1));
            Check.same("lost in " + (4 - past) + " from " + past, 1, x.foresee(4 - past, 1));
            x.run(1);
        }
        Check.same("nothing more", 0, x.foresee(200, 1));
    }

    /** A piece that is there is lost, and cut again by the action by which it was cut. */
    private static void foreseeOfAPieceThatIsThere() {
        for (int past = 3; past <= 5; past++) {
            BendYard x = Yards.building("take rib; cut fir 20; bend 6 6 6; fit; give rib;", 3, 20, 100, 5);
            x.addPlank(3, 21, 40);
            x.addFrame(2);
            x.run(past);
            Check.same("a hull from " + past, 11, x.foresee(100, 3));
            Check.same("none before", 0, x.foresee(10 - past, 0));
            Check.same("lost from " + past, past < 5 ? 1 : 0, x.foresee(100, 1));
            Check.same("the hull", 1, x.run(11 - past));
        }
    }

    /** What is foreseen is built by the plan that was there when it was begun. */
    private static void foreseeByTheOldPlan() {
        BendYard x = Yards.building("cut fir 20; wet 9; bend 0 0 0; fit;", 3, 20, 0, 0);
        x.run(2);
        Texts.compile(x, 0, "cut fir 20; bend 0 0 0; fit;");
        Check.same("hull by the old plan", 12, x.foresee(50, 3));
        Check.same("none before", 0, x.run(9));
        Check.same("hull by the old plan", 1, x.run(1));
    }

    /** The first foreseeing leaves an oak plank with knots where the second one has an elm plank without any. */
    private static void foreseeForgetsWhatItForesaw() {
        BendYard x = new BendYard();
        Texts.compile(x, 0, "cut elm 30; bend 0 0 0; fit; cut elm 60; bend 0 0 0; fit;");
        Texts.compile(x, 1, "cut oak 30; bend 0 0 0; fit;");
        x.addPlank(0, 100, 0);
        x.addKnot(0, 45);
        x.addKnot(0, 75);
        x.addPlank(1, 100, 0);
        x.addSlip();
        x.addSlip();
        x.start(1, 1, 0);
        Check.same("hull of oak", 1, x.foresee(9, 0));
        x.start(0, 0, 0);
        Check.same("hulls of oak and elm", 2, x.foresee(9, 0));
        Check.same("hulls that come", 2, x.run(9));
    }

    private static BendYard busyYard() {
        BendYard x = new BendYard();
        Texts.compile(x, 0, "take rib; times 2 { cut fir 20; wet 2; heat 3; bend 9 20 3; bend 3 3 3; hold 3; fit; } give rib;");
        Texts.compile(x, 1, "cut oak 25; heat 3; take bow; bend 4 1 0; take rib; hold 2; fit; give rib; give bow;");
        Texts.compile(x, 2, "take rib; take bow; cut larch 15; heat 8; bend 9 9 9; fit; give bow; give rib;");
        for (int i = 0; i < 12; i++) {
            x.addPlank(i % 4, 40 + 9 * i, 8 * i);
            x.addKnot(i, 22);
            x.addKnot(i, 3 + i);
        }
        x.addFrame(0);
        x.addFrame(2);
        for (int i = 0; i < 5; i++) {
            x.addSlip();
            x.start(i, i % 3, 5 + 4 * i);
        }
        return x;
    }

    private static void flaw() {
        BendYard x = Yards.building("cut fir 20; bend 6 6 6; fit;", 3, 60, 100, 60);
        Check.sameDouble("flaw of none", 0.0, x.flaw());
        x.run(3);
        Check.sameDouble("flaw of one hull", 6.0, x.flaw());
        Texts.compile(x, 1, "cut fir 20; bend 2 0 0; fit; cut fir 20; bend 0 0 0; fit;");
        x.start(0, 1, 60);
        Check.sameDouble("a hull that is not finished", 6.0, x.flaw());
        x.run(6);
        Check.sameDouble("flaw of two hulls", 6 / 3.0, x.flaw());
        Texts.compile(x, 2, "cut fir 20; bend 3 0 0; fit;");
        x.addPlank(3, 20, 100);
        x.start(0, 2, 60);
        x.run(3);
        Check.sameDouble("flaw of three hulls", 7 / 4.0, x.flaw());
        BendYard y = new BendYard();
        Texts.compile(y, 0, BARE);
        y.addSlip();
        y.addFrame(2);
        y.start(0, 0, 0);
        y.run(3);
        Check.same("a hull without parts", 1, y.count(5));
        Check.sameDouble("flaw of a hull without parts", 0.0, y.flaw());
    }

    /** The parts of a hull that is not finished yet do not count. */
    private static void flawOfFinishedHullsAlone() {
        BendYard x = Yards.building("cut fir 20; bend 6 6 6; fit;", 3, 60, 100, 60);
        x.run(3);
        Texts.compile(x, 1, "cut fir 20; bend 0 0 0; fit; cut fir 20; bend 6 6 6; fit;");
        x.start(0, 1, 60);
        for (int i = 1; i <= 6; i++) {
            x.run(1);
            Check.same("parts", i < 3 ? 0 : 1, x.slip(0, 3));
            Check.sameDouble("flaw at " + x.count(0), 6.0, x.flaw());
        }
        Check.same("finished", 1, x.run(1));
        Check.sameDouble("flaw of both", 12 / 3.0, x.flaw());
    }

    private static void digest() {
        BendYard fresh = new BendYard();
        Check.same("digest of a new yard", Yards.exactDigest(fresh).longValue(), fresh.digest());
        for (int ticks = 1; ticks <= 20; ticks++) {
            BendYard x = yardToDigest();
            Check.same("hulls till " + ticks, ticks < 17 ? ticks < 9 ? 0 : 1 : 2, x.run(ticks));
            Check.same("digest at " + ticks, Yards.exactDigest(x).longValue(), x.digest());
        }
    }

    /** All slips are told, also those that never built, that wait, that lent, and that are idle again. */
    private static void digestOfIdleSlips() {
        BendYard x = new BendYard();
        for (int i = 0; i < 3; i++) {
            x.addSlip();
            Check.same("digest of idle slips", Yards.exactDigest(x).longValue(), x.digest());
        }
        Texts.compile(x, 3, BARE);
        x.addFrame(2);
        x.start(2, 3, 1);
        x.run(2);
        x.start(1, 3, 1);
        x.run(1);
        Check.same("digest behind a hull", Yards.exactDigest(x).longValue(), x.digest());
        BendYard y = Yards.withSlips(4, "take rib; cut oak 20; bend 0 0 0; fit; give rib;", BARE);
        y.addFrame(2);
        y.start(3, 0, 60);
        y.run(2);
        y.start(1, 1, 60);
        y.run(1);
        Check.same("digest with one that waits", Yards.exactDigest(y).longValue(), y.digest());
        y.lend(3, 1, 2);
        Check.same("digest with one that lent", Yards.exactDigest(y).longValue(), y.digest());
    }

    private static BendYard yardToDigest() {
        BendYard x = new BendYard();
        Texts.compile(x, 1, "take rib; cut elm 20; heat 2; bend 5 6 7; fit; give rib;");
        x.addPlank(1, 100, 40);
        x.addKnot(0, 30);
        x.addFrame(2);
        x.addSlip();
        x.addSlip();
        x.start(0, 1, 50);
        x.start(1, 1, 50);
        return x;
    }
}
