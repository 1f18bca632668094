import java.math.BigInteger;

/**
 * Promises 19 to 24 and what a tick does by "2. The yard", sentence by sentence in the order of the document: the
 * boundaries that no other test has for itself.
 */
public final class TickEdgeTest {
    private static final int MIN = Integer.MIN_VALUE;
    private static final int MAX = Integer.MAX_VALUE;
    private static final int RIB = 2;
    private static final int OAK = 0;
    private static final int FIR = 3;
    private static final String BARE = "take rib;give rib;";
    /** Takes 200 ticks if there is wood. */
    private static final String LONG = "cut fir 20;times 6{wet 30;}wet 17;bend 0 0 0;fit;";

    public static void main(String[] args) {
        theTickIsGreaterFirst();
        cutIsTriedInEachTick();
        wetToAHundred();
        wetCoolsToTwenty();
        heatToTwoHundred();
        heatDriesToNothing();
        burnsAboveAHundredAndFifty();
        burnsBelowTen();
        burnsByHeatAlone();
        leastStepOfEachWood();
        aCrackForEachBend();
        noCrackAtTheTarget();
        bendsComeToTheirTargets();
        bendCoolsAndDries();
        threeCracksBreak();
        holdCoolsAndDries();
        springBackIsCut();
        springBackIsCutAgain();
        greatestFlaw();
        stepsOfEachHeat();
        springBackOfEachWetness();
        burningAtEachHeat();
        theNextPieceIsCold();
        theCutOfThisPiece();
        ticksBeginAnew();
        lostPiecesAreCounted();
        eachFifthTick();
        aCutInTheFifthTick();
        fifteenStays();
        runLimits();
        theTwoHundredthTick();
        countLimits();
        hullLimits();
        fortyHullsAreKept();
        foreseeLimits();
        foreseeOneTick();
        foreseeKnowsTheKnots();
        foreseeLeavesAllElse();
        foreseeOfAFullYard();
        foreseeOfEachSort();
        flawOfWhatIsKept();
        digestWrapsAround();
        digestOfFortyHulls();
        digestOfSixtyPlanks();
        digestOfABentPieceThatWaits();
        Check.end("TickEdgeTest");
    }

    /** "(the tick that is now is 1 greater first)": an action is done in the tick behind the start, a wait is since it. */
    private static void theTickIsGreaterFirst() {
        BendYard x = Yards.building("cut fir 20;bend 0 0 0;fit;", FIR, 20, 0, 0);
        Check.same("begun at", 0, x.slip(0, 14));
        Check.same("no piece yet", 0, x.slip(0, 5));
        x.run(1);
        Check.same("tick", 1, x.count(0));
        Check.same("a piece", 1, x.slip(0, 5));
        x.run(2);
        Yards.hullIs(x, 0, 0, 0, 1, 0, 0, 3);
    }

    /** "if a piece can be cut, it is; done (otherwise it is tried again in the next tick)" */
    private static void cutIsTriedInEachTick() {
        BendYard x = Yards.building("cut fir 20;bend 0 0 0;fit;", FIR, 19, 0, 0);
        x.addPlank(OAK, 20, 0);
        x.run(123);
        Yards.slipIs(x, 0, 1, 0, 0, 0, 0, 0, 0, 0, 0, -1, -1, 0, 0, 0, 0);
        x.addPlank(FIR, 20, 0);
        Check.same("not cut before the next tick", 0, x.slip(0, 5));
        x.run(1);
        Check.same("cut in the next tick", 1, x.slip(0, 5));
        Check.same("of the last plank", 0, x.plank(2, 1));
    }

    /** "the wetness is 8 more (at most 100)" */
    private static void wetToAHundred() {
        for (int wetness : new int[] {0, 91, 92, 93, 99, 100}) {
            BendYard x = Yards.building("cut fir 20;wet 2;bend 0 0 0;fit;", FIR, 20, wetness, 0);
            x.run(2);
            Check.same("wetness behind " + wetness, wetness <= 92 ? wetness + 8 : 100, x.slip(0, 6));
            x.run(1);
            Check.same("wetness in the end", wetness == 0 ? 16 : 100, x.slip(0, 6));
        }
    }

    /** "the heat 10 less (at least 20)": from 45 to 35, 25, and 20; from 195 to 185. */
    private static void wetCoolsToTwenty() {
        BendYard x = Yards.building("cut fir 20;heat 1;wet 4;bend 0 0 0;fit;", FIR, 20, 50, 0);
        int[] heats = {20, 45, 35, 25, 20, 20};
        for (int heat : heats) {
            x.run(1);
            Check.same("heat at " + x.count(0), heat, x.slip(0, 7));
        }
    }

    /** "the heat is 25 more (at most 200)": from 175 to just 200, and no more. */
    private static void heatToTwoHundred() {
        BendYard x = Yards.building("cut fir 20;heat 7;wet 2;heat 3;bend 0 0 0;fit;", FIR, 20, 90, 0);
        int[] heats = {20, 45, 70, 95, 120, 145, 170, 195, 185, 175, 200, 200, 200};
        for (int heat : heats) {
            x.run(1);
            Check.same("heat at " + x.count(0), heat, x.slip(0, 7));
        }
    }

    /** "the wetness 3 less (at least 0)" */
    private static void heatDriesToNothing() {
        for (int wetness = 0; wetness <= 7; wetness++) {
            BendYard x = Yards.building("cut fir 20;heat 2;bend 0 0 0;fit;", FIR, 20, wetness, 0);
            x.run(2);
            Check.same("behind a tick of heat from " + wetness, Math.max(0, wetness - 3), x.slip(0, 6));
            x.run(1);
            Check.same("behind two ticks of heat from " + wetness, Math.max(0, wetness - 6), x.slip(0, 6));
        }
    }

    /** "if the heat is greater than 150 then": at 150 it does not burn though nothing is wet, at 155 it does. */
    private static void burnsAboveAHundredAndFifty() {
        BendYard x = Yards.building("take rib;cut fir 20;heat 6;hold 3;heat 2;bend 0 0 0;fit;give rib;", FIR, 20, 28, 0);
        x.addFrame(RIB);
        x.run(13);
        Yards.pieceIs(x, 4, 0, 150, 0);
        Check.same("not burnt", 0, x.count(6));
        x.run(1);
        Yards.pieceIs(x, 1, 0, 0, 0);
        Check.same("burnt at 175", 1, x.count(6));
        for (int wetness : new int[] {31, 32}) {
            BendYard y = Yards.building("take rib;cut fir 20;heat 5;hold 1;heat 1;bend 0 0 0;fit;give rib;", FIR, 20, wetness, 0);
            y.addFrame(RIB);
            y.run(9);
            Yards.pieceIs(y, 4, wetness - 19, 130, 0);
            y.run(1);
            Check.same("burnt at 155 with a wetness of " + (wetness - 22), wetness == 31 ? 1 : 0, y.count(6));
            Check.same("there is a piece", wetness == 31 ? 0 : 1, y.slip(0, 5));
        }
    }

    /** "and the wetness less than 10": as they are behind the tick of heat. */
    private static void burnsBelowTen() {
        BendYard x = Yards.building("cut fir 20;heat 6;bend 0 0 0;fit;", FIR, 20, 27, 0);
        x.run(6);
        Yards.pieceIs(x, 1, 12, 145, 0);
        x.run(1);
        Yards.pieceIs(x, 0, 0, 0, 0);
        Check.same("burnt with a wetness of 9", 1, x.count(6));
        BendYard y = Yards.building("cut fir 20;heat 6;bend 0 0 0;fit;", FIR, 20, 28, 0);
        y.run(7);
        Yards.pieceIs(y, 2, 10, 170, 0);
        Check.same("not burnt with a wetness of 10", 0, y.count(6));
    }

    /** Of the actions only heat lets a piece burn: a bend or a hold may leave it hot and dry. */
    private static void burnsByHeatAlone() {
        BendYard x = Yards.building("take rib;cut fir 20;heat 6;bend 0 0 0;hold 1;wet 1;bend 0 0 0;fit;give rib;", FIR, 20, 28, 0);
        x.addFrame(RIB);
        x.run(10);
        Yards.pieceIs(x, 4, 9, 160, 0);
        x.run(1);
        Yards.pieceIs(x, 5, 5, 145, 0);
        BendYard y = Yards.building("take rib;cut fir 20;heat 6;hold 1;bend 0 0 0;fit;give rib;", FIR, 20, 28, 0);
        y.addFrame(RIB);
        y.run(10);
        Yards.pieceIs(y, 4, 6, 155, 0);
        Check.same("a hull in the end", 1, y.run(3));
    }

    /** "g is heat * (wetness and 20) / (100 * stiffness)", "oak 8, elm 6, larch 5, fir 4": the last 0 and the first 1. */
    private static void leastStepOfEachWood() {
        int[] stiffness = {8, 6, 5, 4};
        for (int wood = 0; wood < 4; wood++) {
            for (int wetness = 0; wetness <= 100; wetness++) {
                String plan = "cut " + YardModel.WOODS.get(wood) + " 20;bend 40 40 40;fit;";
                BendYard x = Yards.building(plan, wood, 20, wetness, 0);
                x.run(2);
                int step = (wetness + 20) / (5 * stiffness[wood]);
                Yards.bendsAre(x, step, step, step, 40, 40, 40);
                Yards.pieceIs(x, 1, Math.max(0, wetness - 1), 20, step == 0 ? 1 : 0);
            }
        }
    }

    /** "If g is 0, and a bend is not its target": each of the three for itself is enough. */
    private static void aCrackForEachBend() {
        for (String bends : new String[] {"1 0 0", "0 1 0", "0 0 1", "40 40 40"}) {
            BendYard x = Yards.building("cut oak 20;bend " + bends + ";fit;", OAK, 20, 19, 0);
            x.run(2);
            Yards.pieceIs(x, 1, 18, 20, 1);
            Yards.bendsAre(x, 0, 0, 0);
            BendYard y = Yards.building("cut oak 20;bend " + bends + ";fit;", OAK, 20, 20, 0);
            y.run(2);
            Yards.pieceIs(y, bends.equals("40 40 40") ? 1 : 2, 19, 20, 0);
        }
    }

    /** With a g of 0 and all bends as they are meant the bend is done, without a crack. */
    private static void noCrackAtTheTarget() {
        BendYard x = Yards.building("cut oak 20;times 4{bend 0 0 0;}fit;", OAK, 20, 0, 0);
        for (int i = 1; i <= 5; i++) {
            x.run(1);
            Yards.pieceIs(x, i, 0, 20, 0);
        }
        Check.same("a hull without a flaw", 1, x.run(1));
    }

    /** "each bend comes nearer to its target by g, or comes to it, if less is between them": upwards and downwards. */
    private static void bendsComeToTheirTargets() {
        BendYard x = Yards.building("cut fir 20;bend 5 6 7;bend 0 1 2;fit;", FIR, 20, 100, 60);
        x.run(1);
        Yards.bendsAre(x, 0, 0, 0, 0, 0, 0);
        // 20 * 120 / 400 is 6.
        x.run(1);
        Yards.bendsAre(x, 5, 6, 6, 5, 6, 7);
        Yards.pieceIs(x, 1, 99, 20, 0);
        x.run(1);
        Yards.bendsAre(x, 5, 6, 7, 5, 6, 7);
        Yards.pieceIs(x, 2, 98, 20, 0);
        // 20 * 118 / 400 is 5: just what is between them.
        x.run(1);
        Yards.bendsAre(x, 0, 1, 2, 0, 1, 2);
        Yards.pieceIs(x, 3, 97, 20, 0);
        BendYard y = Yards.building("cut fir 20;bend 6 6 6;bend 0 1 2;fit;", FIR, 20, 100, 60);
        y.run(3);
        // 20 * 119 / 400 is 5.
        Yards.bendsAre(y, 1, 1, 2, 0, 1, 2);
        Check.same("not done by two of three", 2, y.slip(0, 2));
        y.run(1);
        Yards.bendsAre(y, 0, 1, 2, 0, 1, 2);
        Check.same("done by three", 3, y.slip(0, 2));
    }

    /** "Then the heat is 10 less (at least 20), the wetness 1 less (at least 0)" */
    private static void bendCoolsAndDries() {
        BendYard x = Yards.building("cut fir 20;heat 1;bend 5 0 0;fit;", FIR, 20, 4, 0);
        x.run(2);
        Yards.pieceIs(x, 2, 1, 45, 0);
        // 45 * 21 / 400 is 2, then 35 * 20 / 400, 25 * 20 / 400 and 20 * 20 / 400 are 1.
        x.run(1);
        Yards.pieceIs(x, 2, 0, 35, 0);
        Yards.bendsAre(x, 2, 0, 0);
        x.run(1);
        Yards.pieceIs(x, 2, 0, 25, 0);
        x.run(1);
        Yards.pieceIs(x, 2, 0, 20, 0);
        Yards.bendsAre(x, 4, 0, 0);
        x.run(1);
        Yards.pieceIs(x, 3, 0, 20, 0);
        Yards.bendsAre(x, 5, 0, 0);
    }

    /** "and with 3 it breaks"; the next piece has no cracks and no targets at first. */
    private static void threeCracksBreak() {
        BendYard x = Yards.building("cut oak 20;bend 0 9 0;fit;", OAK, 20, 0, 60);
        x.addPlank(OAK, 21, 0);
        for (int piece = 1; piece <= 2; piece++) {
            x.run(1);
            Yards.pieceIs(x, 1, x.slip(0, 6), 20, 0);
            Yards.bendsAre(x, 0, 0, 0, 0, 0, 0);
            x.run(1);
            Check.same("first crack", 1, x.slip(0, 8));
            Yards.bendsAre(x, 0, 0, 0, 0, 9, 0);
            x.run(1);
            Check.same("second crack", 2, x.slip(0, 8));
            Check.same("there is a piece", 1, x.slip(0, 5));
            Check.same("pieces that broke", piece - 1, x.count(6));
            x.run(1);
            Yards.pieceIs(x, 0, 0, 0, 0);
            Check.same("there is no piece", 0, x.slip(0, 5));
            Check.same("pieces that broke", piece, x.count(6));
        }
    }

    /** "hold: the wetness is 4 less (at least 0), the heat 15 less (at least 20)" */
    private static void holdCoolsAndDries() {
        for (int wetness = 0; wetness <= 9; wetness++) {
            BendYard x = Yards.building("take rib;cut fir 20;hold 2;bend 0 0 0;fit;give rib;", FIR, 20, wetness, 0);
            x.addFrame(RIB);
            x.run(4);
            Yards.pieceIs(x, 2, Math.max(0, wetness - 4), 20, 0);
            x.run(1);
            Yards.pieceIs(x, 3, Math.max(0, wetness - 8), 20, 0);
        }
        BendYard y = Yards.building("take rib;cut fir 20;heat 2;wet 1;heat 1;hold 1;wet 3;hold 1;hold 1;bend 0 0 0;fit;give rib;",
                FIR, 20, 50, 0);
        y.addFrame(RIB);
        int[] heats = {0, 0, 20, 45, 70, 60, 85, 70, 60, 50, 40, 25, 20};
        for (int heat : heats) {
            y.run(1);
            Check.same("heat at " + y.count(0), heat, y.slip(0, 7));
        }
        BendYard z = Yards.building("take rib;cut fir 20;heat 1;wet 1;hold 1;bend 0 0 0;fit;give rib;", FIR, 20, 50, 0);
        z.addFrame(RIB);
        z.run(5);
        Check.same("heat ahead of hold", 35, z.slip(0, 7));
        z.run(1);
        Check.same("just 15 less", 20, z.slip(0, 7));
    }

    /** "each bend springs back by bend * wetness / 200", "If it is at most the tolerance": 0 by 199, 1 by 200. */
    private static void springBackIsCut() {
        for (int wetness : new int[] {24, 25}) {
            for (int tolerance : new int[] {0, 1}) {
                // 20 * (41 to 45) / 400 is 2: five ticks, each of which takes 1 of the wetness.
                BendYard x = Yards.building("cut fir 20;bend 10 10 9;fit;", FIR, 20, wetness, 2 * tolerance);
                x.run(6);
                Yards.pieceIs(x, 2, wetness - 5, 20, 0);
                boolean isFit = wetness == 24 || tolerance == 1;
                Check.same("hulls", isFit ? 1 : 0, x.run(1));
                Check.same("lost", isFit ? 0 : 1, x.count(6));
                Check.same("flaw", isFit ? 2 * (wetness - 24) : 0, x.slip(0, 4));
                Check.same("parts", isFit ? 1 : 0, x.slip(0, 3));
            }
        }
    }

    /** 399 / 200 is 1: two bends that are as far from the next whole number as can be. */
    private static void springBackIsCutAgain() {
        for (int wetness : new int[] {30, 31}) {
            // 20 * (40 to 51) / 400 is 2: eleven ticks for a bend of 21.
            BendYard x = Yards.building("cut fir 20;bend 21 0 0;fit;", FIR, 20, wetness, 2);
            x.run(12);
            Yards.pieceIs(x, 2, wetness - 11, 20, 0);
            Check.same("a hull", 1, x.run(1));
            Check.same("flaw of 21 * " + (wetness - 11), wetness - 29, x.slip(0, 4));
        }
    }

    /** The greatest flaw is the greatest tolerance. */
    private static void greatestFlaw() {
        for (int tolerance : new int[] {59, 60}) {
            BendYard x = Yards.building("cut fir 20;bend 40 40 40;wet 1;fit;", FIR, 20, 100, tolerance);
            x.run(10);
            Yards.pieceIs(x, 3, 100, 20, 0);
            Check.same("hulls", tolerance - 59, x.run(1));
            Check.same("flaw", tolerance == 60 ? 60 : 0, x.slip(0, 4));
            Check.same("lost", 60 - tolerance, x.slip(0, 13));
        }
    }

    /** "g is heat * (wetness and 20) / (100 * stiffness)": of each wood, with each heat, up to more than a bend can need. */
    private static void stepsOfEachHeat() {
        int[] stiffness = {8, 6, 5, 4};
        for (int wood = 0; wood < 4; wood++) {
            for (int ticks = 1; ticks <= 9; ticks++) {
                for (int wetness = 40; wetness <= 100; wetness++) {
                    String cut = "cut " + YardModel.WOODS.get(wood) + " 20;heat " + ticks;
                    BendYard x = Yards.building(cut + ";bend 40 20 40;fit;", wood, 20, wetness, 0);
                    x.run(1 + ticks);
                    int heat = Math.min(200, 20 + 25 * ticks);
                    int wet = wetness - 3 * ticks;
                    Yards.pieceIs(x, 2, wet, heat, 0);
                    x.run(1);
                    int step = heat * (wet + 20) / (100 * stiffness[wood]);
                    Yards.bendsAre(x, Math.min(40, step), Math.min(20, step), Math.min(40, step), 40, 20, 40);
                    Yards.pieceIs(x, step >= 40 ? 3 : 2, wet - 1, heat - 10, 0);
                }
            }
        }
    }

    /** "each bend springs back by bend * wetness / 200": hot or cold, with each wetness and many bends. */
    private static void springBackOfEachWetness() {
        for (String treatment : new String[] {"wet 1;", "heat 1;", "heat 6;wet 1;"}) {
            for (int wetness = 30; wetness <= 100; wetness++) {
                int bend = wetness * 7 % 41;
                BendYard x = Yards.building("cut fir 20;wet 2;bend " + bend + " 1 40;" + treatment + "fit;", FIR, 20, wetness, 60);
                int actions = treatment.length() > 7 ? 5 : 4;
                for (int i = 0; i < 60 && x.slip(0, 2) < actions; i++) {
                    x.run(1);
                }
                int wet = x.slip(0, 6);
                x.run(1);
                Check.same("flaw by a wetness of " + wet + " and a bend of " + bend, bend * wet / 200 + 40 * wet / 200, x.hull(0, 3));
            }
        }
    }

    /** "if the heat is greater than 150 then, and the wetness less than 10": the tick in which each piece burns. */
    private static void burningAtEachHeat() {
        for (int wetness = 0; wetness <= 100; wetness++) {
            BendYard x = Yards.building("cut fir 20;heat 30;bend 0 0 0;fit;", FIR, 20, wetness, 0);
            int ticks = 1;
            while (20 + 25 * ticks <= 150 || wetness - 3 * ticks >= 10) {
                ticks++;
            }
            boolean isBurnt = ticks <= 30;
            x.run(Math.min(ticks, 31));
            Check.same("not burnt from " + wetness, 0, x.count(6));
            x.run(1);
            Check.same("burnt from " + wetness, isBurnt ? 1 : 0, x.count(6));
        }
    }

    /** "heat (20, at first)": also of a piece that is cut where a hot one burnt or was fitted. */
    private static void theNextPieceIsCold() {
        BendYard x = Yards.building("cut fir 20;heat 9;bend 0 0 0;fit;", FIR, 60, 0, 0);
        x.run(7);
        Check.same("burnt at 170", 1, x.count(6));
        x.run(1);
        Yards.pieceIs(x, 1, 1, 20, 0);
        BendYard y = Yards.building("times 2{cut fir 20;heat 8;bend 9 9 9;fit;}", FIR, 60, 90, 60);
        y.run(11);
        Check.same("fitted", 1, y.slip(0, 3));
        Yards.pieceIs(y, 4, 0, 0, 0);
        y.run(1);
        Yards.pieceIs(y, 5, 88, 20, 0);
        Yards.bendsAre(y, 0, 0, 0, 0, 0, 0);
    }

    /** "the slip goes on with the action cut of this piece": that of the round of times in which it was cut. */
    private static void theCutOfThisPiece() {
        BendYard x = Yards.building("times 2{cut fir 20;bend 6 6 6;fit;}", FIR, 20, 0, 5);
        x.addPlank(FIR, 21, 100);
        x.addPlank(FIR, 22, 0);
        x.run(8);
        Yards.slipIs(x, 0, 1, 0, 3, 1, 0, 0, 0, 0, 0, -1, -1, 0, 0, 0, 0);
        // The plank has a wetness of 99 then: 20 * 119 / 400 is 5, and 6 * 97 / 200 is 2.
        x.run(3);
        Yards.slipIs(x, 0, 1, 0, 5, 1, 0, 1, 97, 20, 0, -1, -1, 0, 0, 0, 0);
        x.run(1);
        Yards.slipIs(x, 0, 1, 0, 3, 1, 0, 0, 0, 0, 0, -1, -1, 0, 0, 1, 0);
        x.run(1);
        Check.same("cut in the next tick", 4, x.slip(0, 2));
        x.run(10);
        Check.same("two parts", 2, x.hull(0, 2));
        Check.same("one was lost", 1, x.slip(0, 13));
    }

    /** "with all ticks of its actions begun anew": those of the action in which it is lost, too. */
    private static void ticksBeginAnew() {
        BendYard x = Yards.building("cut fir 20;wet 1;heat 9;bend 0 0 0;fit;", FIR, 20, 10, 0);
        x.addPlank(FIR, 21, 80);
        x.run(7);
        Yards.pieceIs(x, 2, 3, 145, 0);
        x.run(1);
        Check.same("burnt in the sixth tick of heat", 1, x.slip(0, 13));
        Yards.pieceIs(x, 0, 0, 0, 0);
        x.run(2);
        Yards.pieceIs(x, 2, 87, 20, 0);
        x.run(8);
        Check.same("eight ticks of heat", 2, x.slip(0, 2));
        x.run(1);
        Check.same("nine ticks of heat", 3, x.slip(0, 2));
    }

    /** "it is lost (so many are counted)": by burning, breaking and being thrown away, of each slip and in all. */
    private static void lostPiecesAreCounted() {
        BendYard x = Yards.withSlips(3, "cut fir 20;heat 6;bend 0 0 0;fit;", "cut oak 20;bend 1 0 0;fit;",
                "cut larch 20;bend 6 6 6;fit;");
        x.addPlank(FIR, 20, 0);
        x.addPlank(OAK, 20, 0);
        x.addPlank(2, 20, 100);
        for (int i = 0; i < 3; i++) {
            x.start(i, i, 5);
        }
        // Slip 2 bends by 20 * 120 / 500 and 20 * 119 / 500, which is 4, and has a flaw of 6.
        int[][] lost = {{0, 0, 0}, {0, 0, 0}, {0, 0, 0}, {0, 1, 1}, {0, 1, 1}, {0, 1, 1}, {1, 1, 1}, {1, 1, 1}};
        for (int[] due : lost) {
            x.run(1);
            for (int i = 0; i < 3; i++) {
                Check.same("lost by slip " + i + " at " + x.count(0), due[i], x.slip(i, 13));
                Check.same("there is a piece", x.slip(i, 13) == 0 ? 1 : 0, x.slip(i, 5));
            }
            Check.same("lost in all", due[0] + due[1] + due[2], x.count(6));
        }
        Check.same("they build", 3, x.count(3));
        Check.same("none waits for good", 0, x.stuck());
    }

    /** "Each fifth tick (5, 10 ..)": not in those beside it, also if they go by in one run. */
    private static void eachFifthTick() {
        BendYard x = new BendYard();
        x.addPlank(0, 10, 100);
        x.addPlank(0, 10, 0);
        for (int tick = 1; tick <= 100; tick++) {
            x.run(1);
            Check.same("wet plank at " + tick, 100 - tick / 5, x.plank(0, 2));
            Check.same("dry plank at " + tick, Math.min(15, tick / 5), x.plank(1, 2));
        }
        BendYard y = new BendYard();
        y.addPlank(0, 10, 100);
        y.run(4);
        Check.same("in one run to 4", 100, y.plank(0, 2));
        y.run(11);
        Check.same("in one run to 15", 97, y.plank(0, 2));
        y.addPlank(0, 10, 100);
        y.run(4);
        Check.same("a plank that came later", 100, y.plank(1, 2));
        y.run(1);
        Check.same("a plank that came later, at 20", 99, y.plank(1, 2));
    }

    /** "of each plank of which something is left": behind the cuts of this tick. */
    private static void aCutInTheFifthTick() {
        BendYard x = Yards.withSlips(1, "cut fir 20;bend 0 0 0;fit;cut fir 20;bend 0 0 0;fit;");
        x.addPlank(FIR, 60, 40);
        x.addKnot(0, 10);
        x.run(4);
        x.start(0, 0, 0);
        x.run(1);
        Check.same("wetness of the piece", 40, x.slip(0, 6));
        Yards.plankIs(x, 0, FIR, 11, 39, 1, 10);
        Yards.plankIs(x, 1, FIR, 29, 39, 0, 29);
        BendYard y = Yards.withSlips(1, "cut fir 20;bend 0 0 0;fit;");
        y.addPlank(FIR, 20, 40);
        y.run(4);
        y.start(0, 0, 0);
        y.run(1);
        Yards.plankIs(y, 0, FIR, 0, 40, 0, 0);
        y.run(10);
        Yards.plankIs(y, 0, FIR, 0, 40, 0, 0);
    }

    /** "comes nearer to 15 by 1" */
    private static void fifteenStays() {
        BendYard x = new BendYard();
        int[] wetness = {13, 14, 15, 16, 17};
        for (int w : wetness) {
            x.addPlank(0, 10, w);
        }
        x.run(5);
        int[] due = {14, 15, 15, 15, 16};
        for (int i = 0; i < 5; i++) {
            Check.same("wetness behind " + wetness[i], due[i], x.plank(i, 2));
        }
        x.run(5);
        for (int i = 0; i < 5; i++) {
            Check.same("wetness in the end", 15, x.plank(i, 2));
        }
    }

    /** "if ticks is not 1 to 200" */
    private static void runLimits() {
        BendYard x = Yards.withSlips(1, BARE);
        x.addFrame(RIB);
        x.start(0, 0, 0);
        for (int wrong : new int[] {MIN, -1, 0, 201, MAX}) {
            Check.refuses(x, "run(" + wrong + ")", Texts.ARGUMENT, () -> x.run(wrong));
            Check.same("tick", 0, x.count(0));
        }
        Check.same("run(1)", 0, x.run(1));
        Check.same("run(200)", 1, x.run(200));
        Check.same("tick", 201, x.count(0));
        Check.same("hulls of these ticks alone", 0, x.run(200));
    }

    /** The last of 200 ticks is gone by, and foreseen, too. */
    private static void theTwoHundredthTick() {
        BendYard x = Yards.building(LONG, FIR, 20, 0, 0);
        Check.same("least ticks", 200, x.plan(0, 3));
        Check.same("hulls in 199", 0, x.foresee(199, 0));
        Check.same("hulls in 200", 1, x.foresee(200, 0));
        Check.same("first in 199", -1, x.foresee(199, 3));
        Check.same("first in 200", 200, x.foresee(200, 3));
        x.run(1);
        Check.same("first from 1 on", 200, x.foresee(199, 3));
        Check.same("none in 198", 0, x.run(198));
        Check.same("one in the last", 1, x.run(1));
        Yards.hullIs(x, 0, 0, 0, 1, 0, 0, 200);
        BendYard y = Yards.building(LONG, FIR, 20, 0, 0);
        Check.same("one in 200", 1, y.run(200));
        Check.same("finished at", 200, y.hull(0, 5));
    }

    /** "if what is not 0 to 8" */
    private static void countLimits() {
        BendYard x = new BendYard();
        for (int wrong : new int[] {MIN, -1, 9, MAX}) {
            Check.refuses(x, "count(" + wrong + ")", Texts.BOUNDS, () -> x.count(wrong));
        }
        Yards.countsAre(x, 0, 0, 0, 0, 0, 0, 0, 0, 0);
    }

    /** "if there is no such hull, or what is not 0 to 5" */
    private static void hullLimits() {
        BendYard x = Yards.withSlips(1, BARE);
        x.addFrame(RIB);
        x.start(0, 0, 0);
        for (int hulls = 0; hulls < 3; hulls++) {
            for (int wrong : new int[] {MIN, -1, hulls, hulls + 1, 39, 40, MAX}) {
                Check.refuses(x, "hull " + wrong + " of " + hulls, Texts.BOUNDS, () -> x.hull(wrong, 0));
            }
            for (int wrong : new int[] {MIN, -1, 6, MAX}) {
                Check.refuses(x, "hull(0, " + wrong + ")", Texts.BOUNDS, () -> x.hull(0, wrong));
            }
            Check.same("the next hull", 1, x.run(3));
            Yards.hullIs(x, hulls, 0, 0, 0, 0, 3 * hulls, 3 * hulls + 3);
            x.start(0, 0, 0);
        }
    }

    /** "(the first 40 are kept)": the 40th is, the 41st is counted, but not kept. */
    private static void fortyHullsAreKept() {
        BendYard x = Yards.withSlips(1, BARE);
        x.addFrame(RIB);
        for (int i = 0; i < 41; i++) {
            int next = i;
            Check.refuses(x, "hull that comes next", Texts.BOUNDS, () -> x.hull(next, 0));
            x.start(0, 0, 0);
            Check.same("hull", 1, x.run(3));
            Check.same("hulls", i + 1, x.count(5));
        }
        Yards.hullIs(x, 39, 0, 0, 0, 0, 117, 120);
        Yards.hullIs(x, 0, 0, 0, 0, 0, 0, 3);
        Check.refuses(x, "the 41st hull", Texts.BOUNDS, () -> x.hull(40, 0));
        x.start(0, 0, 0);
        Check.same("the 42nd is foreseen", 1, x.foresee(3, 0));
        Check.same("its tick is foreseen", 126, x.foresee(3, 3));
    }

    /** "if ticks is not 1 to 200", "if what is not 0 to 3": the first one named is thrown. */
    private static void foreseeLimits() {
        BendYard x = Yards.building("cut fir 20;bend 0 0 0;fit;", FIR, 20, 0, 0);
        for (int ticks : new int[] {MIN, -1, 0, 201, MAX}) {
            for (int what : new int[] {-1, 0, 3, 4}) {
                Check.refuses(x, "foresee(" + ticks + ", " + what + ")", Texts.ARGUMENT, () -> x.foresee(ticks, what));
            }
        }
        for (int what : new int[] {MIN, -1, 4, MAX}) {
            Check.refuses(x, "foresee(1, " + what + ")", Texts.BOUNDS, () -> x.foresee(1, what));
            Check.refuses(x, "foresee(200, " + what + ")", Texts.BOUNDS, () -> x.foresee(200, what));
        }
    }

    /** "the first of these ticks (as a tick) behind which a hull is finished, -1 if none is": of one tick, too. */
    private static void foreseeOneTick() {
        BendYard x = Yards.withSlips(2, "cut fir 20;bend 0 0 0;fit;", "cut oak 20;bend 1 0 0;fit;");
        x.addPlank(FIR, 20, 0);
        x.addPlank(OAK, 20, 0);
        x.start(0, 0, 0);
        x.start(1, 1, 0);
        int[][] due = {{0, 0, 0, -1}, {0, 0, 0, -1}, {1, 0, 0, 3}, {0, 1, 0, -1}, {0, 0, 0, -1}};
        for (int[] facts : due) {
            for (int what = 0; what < 4; what++) {
                Check.same("foresee(1, " + what + ") at " + x.count(0), facts[what], x.foresee(1, what));
            }
            Check.same("hulls that come", facts[0], x.run(1));
        }
    }

    /** "if so many ticks went by from now on": with the planks as they are, and the knots where they are. */
    private static void foreseeKnowsTheKnots() {
        for (int place = 0; place < 40; place++) {
            BendYard x = Yards.building("cut fir 20;bend 0 0 0;fit;cut fir 19;bend 0 0 0;fit;", FIR, 40, 0, 0);
            x.addKnot(0, place);
            // Of 40 places 39 are used, so the knot has to be at an end of what one of both is cut of.
            int due = place == 0 || place == 19 || place == 20 || place == 39 ? 1 : 0;
            Check.same("hulls foreseen with a knot at " + place, due, x.foresee(6, 0));
            Check.same("hulls with a knot at " + place, due, x.run(6));
        }
        BendYard y = Yards.building("cut fir 20;bend 0 0 0;fit;", FIR, 40, 0, 0);
        y.addKnot(0, 20);
        Check.same("places ahead of the knot", 1, y.foresee(3, 0));
        y.addKnot(0, 19);
        Check.same("too few on both sides", 0, y.foresee(200, 0));
        Check.same("none comes", 0, y.run(200));
    }

    /** "(nothing is changed)": nor the tape, the error, the plans, and the hulls that are kept. */
    private static void foreseeLeavesAllElse() {
        BendYard x = Yards.building("cut fir 20;bend 6 6 6;fit;cut fir 20;bend 0 0 0;fit;", FIR, 100, 100, 60);
        Texts.compile(x, 1, "take bow;take");
        Texts.write(x, BARE);
        for (int what = 0; what < 4; what++) {
            x.foresee(200, what);
        }
        Check.same("errorAt", 13, x.errorAt());
        Check.same("tape", 18, x.trim(18));
        Check.refuses(x, "a longer tape", Texts.ARGUMENT, () -> x.trim(19));
        Check.refuses(x, "a hull that was foreseen", Texts.BOUNDS, () -> x.hull(0, 0));
        Check.sameDouble("flaw", 0.0, x.flaw());
        Check.same("planks", 1, x.count(1));
        Check.same("compile", 0, x.compile(1));
        Check.same("hulls", 1, x.run(6));
        Yards.hullIs(x, 0, 0, 0, 2, 6, 0, 6);
    }

    /** The last plank, the last slip and the last knot are foreseen, too. */
    private static void foreseeOfAFullYard() {
        for (int wanted : new int[] {20, 21}) {
            BendYard x = Yards.withSlips(6, "cut fir " + wanted + ";bend 0 0 0;fit;");
            for (int i = 0; i < 59; i++) {
                x.addPlank(i % 3, 100, 0);
            }
            x.addPlank(FIR, 27, 0);
            for (int i = 0; i < 7; i++) {
                x.addKnot(59, i == 0 ? 0 : 27 - i);
            }
            x.start(5, 0, 0);
            Check.same("places of the last plank", wanted == 20 ? 1 : -1, x.find(FIR, wanted, true));
            Check.same("hulls of the last slip", wanted == 20 ? 1 : 0, x.foresee(3, 0));
            x.addKnot(59, 20);
            Check.same("none behind the eighth knot", 0, x.foresee(200, 0));
            Check.same("none comes", 0, x.run(200));
        }
    }

    /** Frames of each sort that are free are foreseen to be had, and those that are not are not. */
    private static void foreseeOfEachSort() {
        for (int sort = 0; sort < 5; sort++) {
            String frame = YardModel.FRAMES.get(sort);
            BendYard x = Yards.withSlips(6, "take " + frame + ";give " + frame + ";");
            x.start(5, 0, 0);
            Check.same("none without a " + frame, 0, x.foresee(200, 0));
            Check.same("waits for good", 32, x.foresee(200, 2));
            x.addFrame(sort);
            Check.same("one with a " + frame, 3, x.foresee(200, 3));
            Check.same("waits no more", 0, x.foresee(200, 2));
            x.run(2);
            Check.same("held by the slip", 0, x.frames(sort, 1));
            x.start(0, 0, 0);
            Check.same("two hulls", 2, x.foresee(200, 0));
            Check.same("the first one", 3, x.foresee(200, 3));
        }
    }

    /** "the flaws of all hulls that are kept, divided by their parts; 0 if they have none" */
    private static void flawOfWhatIsKept() {
        BendYard x = Yards.withSlips(1, BARE, "cut fir 20;bend 6 6 6;fit;");
        x.addFrame(RIB);
        for (int i = 0; i < 39; i++) {
            x.start(0, 0, 0);
            x.run(3);
            Check.sameDouble("flaw without parts", 0.0, x.flaw());
        }
        x.addPlank(FIR, 20, 100);
        x.start(0, 1, 60);
        x.run(2);
        Check.sameDouble("flaw ahead of the 40th hull", 0.0, x.flaw());
        Check.same("the 40th hull", 1, x.run(1));
        Check.sameDouble("flaw of the 40th hull", x.hull(39, 3), x.flaw());
        Check.same("which has a flaw", 6, x.hull(39, 3));
        x.addPlank(FIR, 20, 0);
        x.start(0, 1, 60);
        Check.same("the 41st hull", 1, x.run(8));
        Check.sameDouble("flaw without the 41st hull", 6.0, x.flaw());
        BendYard y = Yards.building("cut fir 20;bend 5 0 0;fit;cut fir 20;bend 0 0 0;fit;cut fir 20;bend 0 0 0;fit;", FIR, 60, 100, 60);
        Check.same("a hull of three parts", 1, y.run(9));
        Check.sameDouble("flaw that is no whole number", 2 / 3.0, y.flaw());
    }

    /** "which wraps around as a 64-bit integer": told by numbers without an end. */
    private static void digestWrapsAround() {
        BendYard fresh = new BendYard();
        BigInteger exact = Yards.exactDigest(fresh);
        Check.note(exact.bitLength() > 64, "the digest of a new yard does not wrap around");
        Check.same("digest of a new yard", exact.longValue(), fresh.digest());
        for (int ticks = 1; ticks <= 12; ticks++) {
            BendYard x = Yards.withSlips(6, BARE, "take rib;cut fir 20;bend 6 7 8;fit;give rib;");
            for (int i = 0; i < 20; i++) {
                x.addPlank(i % 4, 40 + i, 5 * i);
                x.addKnot(i, i % 8);
            }
            for (int i = 0; i < 6; i++) {
                x.addFrame(i % 3);
                x.start(i, i % 2, 60 - i);
            }
            x.run(ticks);
            Check.same("digest at " + ticks, Yards.exactDigest(x).longValue(), x.digest());
            Check.same("digest changes nothing", x.digest(), x.digest());
        }
    }

    /** "for each hull that is kept": not for the 41st and the 42nd. */
    private static void digestOfFortyHulls() {
        BendYard x = Yards.withSlips(3, BARE);
        for (int i = 0; i < 3; i++) {
            x.addFrame(RIB);
        }
        for (int round = 0; round < 14; round++) {
            for (int slip = 0; slip < 3; slip++) {
                x.start(slip, 0, 0);
            }
            Check.same("three hulls", 3, x.run(3 + round % 2));
        }
        Check.same("hulls", 42, x.count(5));
        Check.same("digest of 42 hulls", Yards.exactDigest(x).longValue(), x.digest());
    }

    /** "for each plank what plank() tells": to the 60th. */
    private static void digestOfSixtyPlanks() {
        BendYard x = new BendYard();
        for (int i = 0; i < 60; i++) {
            x.addPlank(i % 4, 300 - i, i);
        }
        x.addKnot(59, 100);
        Check.same("digest of 60 planks", Yards.exactDigest(x).longValue(), x.digest());
    }

    /** "and its three bends, then its three targets": of a slip that lent its frame, too. */
    private static void digestOfABentPieceThatWaits() {
        BendYard x = Yards.withSlips(6, "take rib;cut fir 20;bend 1 2 3;bend 4 9 40;fit;give rib;", BARE);
        x.addPlank(FIR, 20, 100);
        x.addFrame(RIB);
        x.start(5, 0, 0);
        x.run(5);
        x.start(0, 1, 0);
        x.run(1);
        Check.same("lend", 1, x.lend(5, 0, RIB));
        for (int i = 0; i < 3; i++) {
            Check.note(x.bend(5, i, false) > 0 && x.bend(5, i, true) > 0, "the piece is not bent");
        }
        Check.note(x.bend(5, 2, false) != x.bend(5, 2, true), "the piece is bent to its targets");
        Check.same("digest", Yards.exactDigest(x).longValue(), x.digest());
    }
}
