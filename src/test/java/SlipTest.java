/** Promises 13 to 18: addSlip, start, lend, slip, bend, stuck. */
public final class SlipTest {
    private static final int BOW = 0;
    private static final int STERN = 1;
    private static final int RIB = 2;
    private static final int SIDE = 3;

    public static void main(String[] args) {
        addSlip();
        start();
        slipsThatBuild();
        startRefuses();
        slipKeepsItsPlan();
        slipFacts();
        slipRefuses();
        bends();
        lend();
        lendRefuses();
        lendAmongThree();
        lendDuringWork();
        lendToLender();
        lendRefusesALender();
        lendWhileOneIsFree();
        lendWhatWasLent();
        lendOnAtOnce();
        toleranceOfEachHull();
        allFrames();
        takeBehindGive();
        framesAreGrantedInTurn();
        stuck();
        stuckThroughOthers();
        stuckBesideFinishedHulls();
        Check.end("SlipTest");
    }

    private static void addSlip() {
        BendYard x = new BendYard();
        for (int i = 0; i < 6; i++) {
            Check.same("slip", i, x.addSlip());
            Check.same("slips", i + 1, x.count(2));
        }
        Check.refuses(x, "seventh slip", Texts.STATE, () -> x.addSlip());
        Yards.slipIs(x, 5, 0, -1, 0, 0, 0, 0, 0, 0, 0, -1, -1, 0, 0, 0, -1);
    }

    private static void start() {
        BendYard x = Yards.withSlips(3, "take rib; give rib;", "take bow; give bow;");
        x.run(7);
        Check.same("first start", 1, x.start(2, 1, 60));
        Check.same("second start", 2, x.start(0, 0, 0));
        Yards.slipIs(x, 2, 1, 1, 0, 0, 0, 0, 0, 0, 0, -1, -1, 0, 0, 0, 7);
        Yards.slipIs(x, 0, 1, 0, 0, 0, 0, 0, 0, 0, 0, -1, -1, 0, 0, 0, 7);
        Check.same("slips that build", 2, x.count(3));
        x.addFrame(RIB);
        x.run(3);
        Check.same("slip is idle", 0, x.slip(0, 0));
        Check.same("start again", 2, x.start(0, 0, 0));
        Check.same("begun again", 10, x.slip(0, 14));
        Check.same("actions begun anew", 0, x.slip(0, 2));
    }

    /** Slips that build are those that wait, too, by take or because they lent a frame. */
    private static void slipsThatBuild() {
        BendYard x = Yards.withSlips(4, "take rib; cut oak 20; bend 0 0 0; fit; give rib;");
        x.addFrame(RIB);
        x.start(0, 0, 0);
        x.run(2);
        x.start(1, 0, 0);
        x.run(1);
        x.lend(0, 1, RIB);
        Check.same("with one that lent", 2, x.count(3));
        Check.same("start with one that lent", 3, x.start(3, 0, 0));
        x.run(1);
        Check.same("with one that lent and one that waits", 3, x.count(3));
        Check.same("start with both", 4, x.start(2, 0, 0));
        Check.refuses(x, "start of one that lent", Texts.STATE, () -> x.start(0, 0, 0));
        Check.refuses(x, "start of one that waits", Texts.STATE, () -> x.start(3, 0, 0));
    }

    private static void startRefuses() {
        BendYard x = Yards.withSlips(1, "take rib; give rib;");
        Check.refuses(x, "start(-1, 0, 0)", Texts.BOUNDS, () -> x.start(-1, 0, 0));
        Check.refuses(x, "start(1, 0, 0)", Texts.BOUNDS, () -> x.start(1, 0, 0));
        Check.refuses(x, "start(1, 6, 61)", Texts.BOUNDS, () -> x.start(1, 6, 61));
        Check.refuses(x, "start(0, -1, 0)", Texts.ARGUMENT, () -> x.start(0, -1, 0));
        Check.refuses(x, "start(0, 6, 0)", Texts.ARGUMENT, () -> x.start(0, 6, 0));
        Check.refuses(x, "start(0, 0, -1)", Texts.ARGUMENT, () -> x.start(0, 0, -1));
        Check.refuses(x, "start(0, 0, 61)", Texts.ARGUMENT, () -> x.start(0, 0, 61));
        Check.refuses(x, "start(0, 1, 61)", Texts.ARGUMENT, () -> x.start(0, 1, 61));
        Check.refuses(x, "start(0, 1, 60)", Texts.STATE, () -> x.start(0, 1, 60));
        x.start(0, 0, 60);
        Check.refuses(x, "start of a slip that builds", Texts.STATE, () -> x.start(0, 0, 0));
        Check.refuses(x, "start of it without a plan", Texts.ARGUMENT, () -> x.start(0, 6, 0));
    }

    private static void slipKeepsItsPlan() {
        BendYard x = Yards.withSlips(1, "take rib; take bow; give rib; give bow;");
        x.addFrame(RIB);
        x.addFrame(BOW);
        x.start(0, 0, 0);
        x.run(2);
        Texts.compile(x, 0, "take side; give side;");
        Check.same("new plan", 2, x.plan(0, 0));
        x.run(2);
        Check.same("frames by the old plan", 5, x.slip(0, 12));
        Check.same("old hull", 1, x.run(2));
        Check.same("its actions", 4, x.slip(0, 2));
        Check.same("its plan", 0, x.slip(0, 1));
        x.start(0, 0, 0);
        x.run(1);
        Check.same("new hull waits for a side", SIDE, x.slip(0, 9));
    }

    private static void slipFacts() {
        BendYard x = Yards.withSlips(1, "take rib; cut larch 20; wet 2; heat 2; bend 2 9 1; fit; cut fir 10; bend 0 0 0; fit; give rib;");
        x.addFrame(RIB);
        x.addPlank(2, 20, 50);
        x.start(0, 0, 30);
        x.run(1);
        Yards.slipIs(x, 0, 1, 0, 0, 0, 0, 0, 0, 0, 0, RIB, 1, 0, 0, 0, 0);
        x.run(1);
        Yards.slipIs(x, 0, 1, 0, 1, 0, 0, 0, 0, 0, 0, -1, -1, 0, 4, 0, 0);
        x.run(1);
        Yards.slipIs(x, 0, 1, 0, 2, 0, 0, 1, 50, 20, 0, -1, -1, 0, 4, 0, 0);
        x.run(1);
        Yards.slipIs(x, 0, 1, 0, 2, 0, 0, 1, 58, 20, 0, -1, -1, 0, 4, 0, 0);
        x.run(1);
        Yards.slipIs(x, 0, 1, 0, 3, 0, 0, 1, 66, 20, 0, -1, -1, 0, 4, 0, 0);
        x.run(2);
        Yards.slipIs(x, 0, 1, 0, 4, 0, 0, 1, 60, 70, 0, -1, -1, 0, 4, 0, 0);
        // 70 * (60 + 20) / 500 is 11: all bends come to their targets at once.
        x.run(1);
        Yards.slipIs(x, 0, 1, 0, 5, 0, 0, 1, 59, 60, 0, -1, -1, 0, 4, 0, 0);
        // 9 * 59 / 200 is 2, the others spring back by 0.
        x.run(1);
        Yards.slipIs(x, 0, 1, 0, 6, 1, 2, 0, 0, 0, 0, -1, -1, 0, 4, 0, 0);
        x.run(3);
        Yards.slipIs(x, 0, 1, 0, 6, 1, 2, 0, 0, 0, 0, -1, -1, 0, 4, 0, 0);
        x.addPlank(3, 10, 0);
        x.run(3);
        Yards.slipIs(x, 0, 1, 0, 9, 2, 2, 0, 0, 0, 0, -1, -1, 0, 4, 0, 0);
        Check.same("hull is finished", 1, x.run(1));
        Yards.slipIs(x, 0, 0, 0, 10, 2, 2, 0, 0, 0, 0, -1, -1, 0, 0, 0, 0);
    }

    private static void slipRefuses() {
        BendYard x = Yards.withSlips(2);
        Check.refuses(x, "slip(2, 0)", Texts.BOUNDS, () -> x.slip(2, 0));
        Check.refuses(x, "slip(-1, 0)", Texts.BOUNDS, () -> x.slip(-1, 0));
        Check.refuses(x, "slip(0, -1)", Texts.BOUNDS, () -> x.slip(0, -1));
        Check.refuses(x, "slip(1, 15)", Texts.BOUNDS, () -> x.slip(1, 15));
        Check.refuses(x, "bend(2, 0)", Texts.BOUNDS, () -> x.bend(2, 0, true));
        Check.refuses(x, "bend(-1, 0)", Texts.BOUNDS, () -> x.bend(-1, 0, true));
        Check.refuses(x, "bend(0, -1)", Texts.BOUNDS, () -> x.bend(0, -1, false));
        Check.refuses(x, "bend(0, 3)", Texts.BOUNDS, () -> x.bend(0, 3, false));
    }

    private static void bends() {
        BendYard x = Yards.withSlips(1, "cut fir 10; bend 4 13 0; bend 9 3 0; fit;");
        x.addPlank(3, 10, 100);
        Yards.bendsAre(x, 0, 0, 0, 0, 0, 0);
        x.start(0, 0, 60);
        x.run(1);
        Yards.bendsAre(x, 0, 0, 0, 0, 0, 0);
        // 20 * 120 / 400 is 6, with a wetness of 99 and 98 it is 5.
        x.run(1);
        Yards.bendsAre(x, 4, 6, 0, 4, 13, 0);
        x.run(1);
        Yards.bendsAre(x, 4, 11, 0, 4, 13, 0);
        x.run(1);
        Yards.bendsAre(x, 4, 13, 0, 4, 13, 0);
        x.run(1);
        Yards.bendsAre(x, 9, 8, 0, 9, 3, 0);
        Check.same("actions done", 2, x.slip(0, 2));
        x.run(1);
        Yards.bendsAre(x, 9, 3, 0, 9, 3, 0);
        Check.same("actions done", 3, x.slip(0, 2));
        x.run(1);
        Yards.bendsAre(x, 0, 0, 0, 0, 0, 0);
        // A wetness of 95: 9 * 95 / 200 is 4, 3 * 95 / 200 is 1.
        Check.same("flaw of the hull", 5, x.slip(0, 4));
    }

    /** Two slips that hold what the other one waits for, since the tick 3. */
    private static BendYard deadlock() {
        BendYard x = Yards.withSlips(2, "take rib; take side; give rib; give side;", "take side; take rib; give side; give rib;");
        x.addFrame(RIB);
        x.addFrame(SIDE);
        x.start(0, 0, 0);
        x.start(1, 1, 0);
        x.run(4);
        return x;
    }

    private static void lend() {
        BendYard x = deadlock();
        Check.same("slip 0 waits since", 3, x.slip(0, 10));
        Check.same("both wait", 2, x.count(4));
        Check.same("both are stuck", 3, x.stuck());
        Check.same("lend", 1, x.lend(0, 1, RIB));
        Yards.slipIs(x, 0, 1, 0, 1, 0, 0, 0, 0, 0, 0, RIB, 4, 1, 0, 0, 0);
        Yards.slipIs(x, 1, 1, 1, 1, 0, 0, 0, 0, 0, 0, -1, -1, 0, 12, 0, 0);
        Check.same("none is stuck", 0, x.stuck());
        Check.same("one waits for a rib", 1, x.frames(RIB, 2));
        Check.same("none waits for a side", 0, x.frames(SIDE, 2));
        Check.same("no rib is free", 0, x.frames(RIB, 1));
        x.run(2);
        Check.same("side is given", 1, x.frames(SIDE, 1));
        Check.same("still none waits for it", 0, x.frames(SIDE, 2));
        Check.same("the borrower is done", 1, x.run(1));
        Check.same("the lender still waits", 1, x.slip(0, 11));
        x.run(1);
        Yards.slipIs(x, 0, 1, 0, 1, 0, 0, 0, 0, 0, 0, SIDE, 8, 0, 4, 0, 0);
        x.run(1);
        Check.same("it has both", 12, x.slip(0, 12));
        Check.same("the lender is done", 1, x.run(2));
        Check.same("finished", 11, x.hull(1, 5));
    }

    private static void lendRefuses() {
        BendYard x = deadlock();
        x.addSlip();
        Check.refuses(x, "lend(-1, 1)", Texts.BOUNDS, () -> x.lend(-1, 1, RIB));
        Check.refuses(x, "lend(0, 3)", Texts.BOUNDS, () -> x.lend(0, 3, RIB));
        Check.refuses(x, "lend(3, 3)", Texts.BOUNDS, () -> x.lend(3, 3, 9));
        Check.refuses(x, "lend(0, 0)", Texts.ARGUMENT, () -> x.lend(0, 0, RIB));
        Check.refuses(x, "lend(2, 1, -1)", Texts.ARGUMENT, () -> x.lend(2, 1, -1));
        Check.refuses(x, "lend(0, 1, 5)", Texts.ARGUMENT, () -> x.lend(0, 1, 5));
        Check.refuses(x, "lend of what it does not hold", Texts.STATE, () -> x.lend(0, 1, SIDE));
        Check.refuses(x, "lend by an idle slip", Texts.STATE, () -> x.lend(2, 1, RIB));
        Check.refuses(x, "lend to an idle slip", Texts.STATE, () -> x.lend(0, 2, RIB));
        Check.refuses(x, "lend of what nobody holds", Texts.STATE, () -> x.lend(0, 1, BOW));
        Check.same("lend", 1, x.lend(1, 0, SIDE));
        Check.refuses(x, "lend twice", Texts.STATE, () -> x.lend(1, 0, SIDE));
        Check.refuses(x, "lend to whom does not wait for it", Texts.STATE, () -> x.lend(0, 1, RIB));
    }

    private static void lendAmongThree() {
        BendYard x = Yards.withSlips(3, "take rib; take side; take bow; give bow; give side; give rib;",
                "take rib; give rib;", "take side; give side;");
        x.addFrame(RIB);
        x.addFrame(SIDE);
        x.start(0, 0, 0);
        x.run(5);
        Check.same("slip 0 waits for a bow", BOW, x.slip(0, 9));
        x.start(1, 1, 0);
        x.start(2, 2, 0);
        x.run(2);
        Check.same("all wait for good", 7, x.stuck());
        Check.same("lend the rib", 2, x.lend(0, 1, RIB));
        Check.refuses(x, "lend a second one", Texts.STATE, () -> x.lend(0, 2, SIDE));
        // The rib comes back to slip 0, which gives the side only when it has had a bow.
        Check.same("stuck behind lending", 0, x.stuck());
        Check.same("hull of slip 1", 1, x.run(3));
        Check.same("slip 0 waits for a bow again", BOW, x.slip(0, 9));
        Check.same("slip 0 has both", 12, x.slip(0, 12));
        Check.same("stuck again", 5, x.stuck());
        Check.same("lend the side", 1, x.lend(0, 2, SIDE));
        Check.same("hull of slip 2", 1, x.run(3));
    }

    private static void lendDuringWork() {
        BendYard x = Yards.withSlips(2, "take rib; cut oak 20; heat 1; hold 6; bend 0 0 0; fit; give rib;", "take rib; give rib;");
        x.addFrame(RIB);
        x.addPlank(0, 20, 90);
        x.start(0, 0, 0);
        x.run(2);
        x.start(1, 1, 0);
        x.run(4);
        Check.same("wetness behind two ticks of hold", 79, x.slip(0, 6));
        Check.refuses(x, "lend to slip 0", Texts.STATE, () -> x.lend(1, 0, RIB));
        Check.same("lend", 1, x.lend(0, 1, RIB));
        x.run(2);
        Check.same("wetness while it waits", 79, x.slip(0, 6));
        Check.same("the rib is free", 1, x.frames(RIB, 1));
        x.run(1);
        Check.same("wetness when it goes on", 75, x.slip(0, 6));
        x.run(2);
        Check.same("actions behind five ticks", 3, x.slip(0, 2));
        x.run(1);
        Check.same("actions behind six ticks", 4, x.slip(0, 2));
        Check.same("finished", 1, x.run(3));
    }

    private static void lendToLender() {
        BendYard x = Yards.withSlips(3, "take rib; take bow; give bow; give rib;");
        x.addFrame(RIB);
        x.addFrame(RIB);
        x.start(0, 0, 0);
        x.start(1, 0, 0);
        x.start(2, 0, 0);
        x.run(4);
        Check.same("slip 0 lends", 2, x.lend(0, 2, RIB));
        Check.same("slip 1 lends to the lender", 1, x.lend(1, 0, RIB));
        Yards.slipIs(x, 0, 1, 0, 1, 0, 0, 0, 0, 0, 0, -1, -1, 0, 4, 0, 0);
        Yards.slipIs(x, 1, 1, 0, 1, 0, 0, 0, 0, 0, 0, RIB, 4, 1, 0, 0, 0);
        x.run(1);
        Check.same("slip 0 waits for a bow", BOW, x.slip(0, 9));
        Check.same("since its turn", 5, x.slip(0, 10));
    }

    /** The exceptions in their order, also for a slip that waits for what it lent. */
    private static void lendRefusesALender() {
        BendYard x = deadlock();
        x.addSlip();
        x.lend(0, 1, RIB);
        Check.refuses(x, "a lender and no slip", Texts.BOUNDS, () -> x.lend(0, 3, RIB));
        Check.refuses(x, "a lender and itself", Texts.ARGUMENT, () -> x.lend(0, 0, RIB));
        Check.refuses(x, "a lender and no sort", Texts.ARGUMENT, () -> x.lend(0, 1, 5));
        Check.refuses(x, "a lender and a sort below 0", Texts.ARGUMENT, () -> x.lend(0, 1, -1));
        Check.refuses(x, "a lender", Texts.STATE, () -> x.lend(0, 1, RIB));
        Check.refuses(x, "an idle slip and no sort", Texts.ARGUMENT, () -> x.lend(2, 0, 5));
        Check.refuses(x, "an idle slip", Texts.STATE, () -> x.lend(2, 0, RIB));
    }

    /** A lender waits till the next tick, though a frame of the sort is free; then it has that one. */
    private static void lendWhileOneIsFree() {
        BendYard x = Yards.withSlips(2, "take rib; cut oak 20; bend 0 0 0; fit; give rib;", "take rib; give rib;");
        x.addFrame(RIB);
        x.start(0, 0, 0);
        x.run(2);
        x.start(1, 1, 0);
        x.run(1);
        x.addFrame(RIB);
        Yards.framesAre(x, RIB, 2, 1, 1);
        Check.same("lend", 1, x.lend(0, 1, RIB));
        Yards.slipIs(x, 0, 1, 0, 1, 0, 0, 0, 0, 0, 0, RIB, 3, 1, 0, 0, 0);
        Yards.framesAre(x, RIB, 2, 1, 1);
        Check.same("it does not wait for good", 0, x.stuck());
        x.addPlank(0, 20, 0);
        x.run(1);
        Yards.slipIs(x, 0, 1, 0, 2, 0, 0, 1, 0, 20, 0, -1, -1, 0, 4, 0, 0);
        Yards.framesAre(x, RIB, 2, 0, 0);
    }

    /** What was lent is lent on; who waits longest gets it, not the one that lent it last. */
    private static void lendWhatWasLent() {
        BendYard x = Yards.withSlips(3, "take rib; cut oak 20; bend 0 0 0; fit; give rib;", "take rib; give rib;");
        x.addFrame(RIB);
        x.start(2, 0, 0);
        x.run(2);
        x.start(1, 0, 0);
        x.run(1);
        Check.same("slip 2 lends", 1, x.lend(2, 1, RIB));
        x.start(0, 1, 0);
        x.run(1);
        Check.same("slip 1 holds it", 4, x.slip(1, 12));
        Check.same("slip 1 lends on", 2, x.lend(1, 0, RIB));
        Yards.framesAre(x, RIB, 1, 0, 2);
        Check.same("slip 2 waits since", 3, x.slip(2, 10));
        Check.same("slip 1 waits since", 4, x.slip(1, 10));
        Check.same("slip 0 is finished", 1, x.run(2));
        x.run(1);
        Check.same("slip 2 has it again", 4, x.slip(2, 12));
        Check.same("slip 1 waits", 1, x.slip(1, 11));
        Check.same("slip 2 lends again", 1, x.lend(2, 1, RIB));
        Check.same("slip 1 waits no more", 0, x.slip(1, 11));
    }

    /** Who has just got a frame for which it waited by take can lend it on, and its take is done when it has it again. */
    private static void lendOnAtOnce() {
        BendYard x = Yards.withSlips(3, "take rib; cut oak 20; bend 0 0 0; fit; give rib;", "take rib; give rib;");
        x.addFrame(RIB);
        x.start(0, 0, 0);
        x.run(2);
        x.start(1, 1, 0);
        x.start(2, 1, 0);
        x.run(1);
        Check.same("slip 0 lends", 2, x.lend(0, 1, RIB));
        Check.same("slip 1 lends on", 2, x.lend(1, 2, RIB));
        Check.same("slip 2 lends it back", 2, x.lend(2, 0, RIB));
        Check.same("slip 0 lends again", 2, x.lend(0, 2, RIB));
        for (int slip = 0; slip < 2; slip++) {
            Check.same("slip " + slip + " waits since", 3, x.slip(slip, 10));
            Check.same("slip " + slip + " lent", 1, x.slip(slip, 11));
        }
        Check.same("slip 2 is finished", 1, x.run(2));
        x.run(1);
        Check.same("slip 0 is first by its number", 4, x.slip(0, 12));
        Check.same("slip 0 lends once more", 1, x.lend(0, 1, RIB));
        x.run(1);
        Check.same("the take of slip 1 is done", 1, x.slip(1, 2));
        Check.same("slip 1 is finished", 1, x.run(1));
    }

    /** Each hull has the tolerance with which it was begun. */
    private static void toleranceOfEachHull() {
        BendYard x = Yards.withSlips(1, "cut fir 10; bend 6 6 6; fit;");
        int[] tolerances = {6, 5, 60};
        for (int tolerance : tolerances) {
            x.addPlank(3, 10, 100);
            int lost = x.count(6);
            Check.same("start with " + tolerance, 1, x.start(0, 0, tolerance));
            x.run(3);
            Check.same("lost with " + tolerance, tolerance == 5 ? 1 : 0, x.count(6) - lost);
            if (tolerance == 5) {
                x.addPlank(3, 10, 20);
                Check.same("a dry piece springs back less", 1, x.run(20));
            }
        }
        Check.same("three hulls", 3, x.count(5));
    }

    /** "the set of the sorts that it holds (as the sum of the powers 2^k)" */
    private static void allFrames() {
        StringBuilder text = new StringBuilder();
        for (String frame : YardModel.FRAMES) {
            text.append("take ").append(frame).append(";");
        }
        for (String frame : YardModel.FRAMES) {
            text.append("give ").append(frame).append(";");
        }
        BendYard x = Yards.withSlips(1, text.toString());
        for (int sort = 0; sort < 5; sort++) {
            x.addFrame(sort);
        }
        x.start(0, 0, 0);
        int[] sets = {1, 3, 7, 15, 31};
        for (int sort = 0; sort < 5; sort++) {
            x.run(1);
            Check.same("waits for", sort, x.slip(0, 9));
            x.run(1);
            Check.same("frames that it holds", sets[sort], x.slip(0, 12));
        }
        for (int sort = 0; sort < 5; sort++) {
            Check.same("hulls", sort == 4 ? 1 : 0, x.run(1));
            Check.same("frames that are left", 31 - sets[sort], x.slip(0, 12));
            Check.same("frames that are free", 1, x.frames(sort, 1));
        }
    }

    /** A frame that a slip gave it has to wait for like any other one. */
    private static void takeBehindGive() {
        BendYard x = Yards.withSlips(2, "take rib; give rib; take rib; give rib;", "take rib; give rib;");
        x.addFrame(RIB);
        x.start(0, 0, 0);
        int[] waitsSince = {1, -1, -1, 4, -1, -1};
        for (int since : waitsSince) {
            x.run(1);
            Check.same("waits since at " + x.count(0), since, x.slip(0, 10));
        }
        Check.same("finished in the sixth tick", 6, x.hull(0, 5));
        x.start(0, 0, 0);
        x.run(1);
        x.start(1, 1, 0);
        x.run(3);
        Check.same("slip 1 waits longer", 4, x.slip(1, 12));
        Check.same("slip 0 waits", 10, x.slip(0, 10));
    }

    private static void framesAreGrantedInTurn() {
        BendYard x = Yards.withSlips(3, "take rib; give rib;", "take stern; take rib; give rib; give stern;");
        x.addFrame(STERN);
        x.start(1, 0, 0);
        x.run(1);
        x.start(0, 0, 0);
        x.start(2, 0, 0);
        x.run(1);
        x.addFrame(RIB);
        x.run(1);
        Check.same("slip 1 is first", 4, x.slip(1, 12));
        Check.same("slip 0 waits", RIB, x.slip(0, 9));
        x.run(1);
        Check.same("slip 1 gives", 1, x.frames(RIB, 1));
        x.run(1);
        Check.same("slip 0 is next", 4, x.slip(0, 12));
        Check.same("slip 2 waits", 2, x.slip(2, 10));
        x.run(2);
        Check.same("slip 2 is last", 4, x.slip(2, 12));
    }

    private static void stuck() {
        BendYard x = Yards.withSlips(3, "take rib; give rib;");
        x.start(0, 0, 0);
        Check.same("none waits yet", 0, x.stuck());
        x.run(1);
        Check.same("no such frame", 1, x.stuck());
        x.start(2, 0, 0);
        x.run(1);
        Check.same("two wait", 5, x.stuck());
        x.addFrame(RIB);
        Check.same("a frame is free", 0, x.stuck());
        x.run(1);
        Check.same("a frame will be given", 0, x.stuck());
        for (int sort = 0; sort < 5; sort++) {
            BendYard y = Yards.withSlips(1, "take " + YardModel.FRAMES.get(sort) + "; give " + YardModel.FRAMES.get(sort) + ";");
            y.start(0, 0, 0);
            y.run(1);
            Check.same("stuck without a frame of sort " + sort, 1, y.stuck());
            y.addFrame(sort);
            Check.same("stuck with a frame of sort " + sort, 0, y.stuck());
        }
    }

    private static void stuckThroughOthers() {
        BendYard x = Yards.withSlips(4, "take bow; take stern; give stern; give bow;", "take stern; take rib; give rib; give stern;",
                "take rib; cut oak 10; bend 0 0 0; fit; give rib;", "take side; give side;");
        x.addFrame(BOW);
        x.addFrame(STERN);
        x.addFrame(RIB);
        for (int i = 0; i < 4; i++) {
            x.start(3 - i, 3 - i, 0);
        }
        x.run(5);
        Check.same("slip 0 waits for slip 1", STERN, x.slip(0, 9));
        Check.same("slip 1 waits for slip 2", RIB, x.slip(1, 9));
        Check.same("slip 2 waits for wood", -1, x.slip(2, 9));
        Check.same("only slip 3 waits for good", 8, x.stuck());
        x.addPlank(0, 10, 0);
        Check.same("three hulls", 3, x.run(40));
        Check.same("slip 3 still waits", 8, x.stuck());
    }

    /** Slips that are idle again have no frames to give, however many hulls were finished on them. */
    private static void stuckBesideFinishedHulls() {
        BendYard x = Yards.withSlips(2, "take bow; give bow;", "take rib; give rib;");
        x.addFrame(RIB);
        x.start(1, 0, 0);
        x.run(1);
        for (int hulls = 0; hulls < 42; hulls++) {
            x.start(0, 1, 0);
            Check.same("stuck beside " + hulls + " hulls", 2, x.stuck());
            Check.same("foreseen beside " + hulls + " hulls", 2, x.foresee(3, 2));
            x.run(3);
        }
        Check.same("stuck beside all hulls", 2, x.stuck());
    }
}
