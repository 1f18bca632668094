import java.math.BigInteger;
import java.util.ArrayList;
import java.util.List;

/** Makes yards for the tests, and holds many answers of a yard at once against those that are due. */
final class Yards {
    private Yards() {
    }

    static BendYard withSlips(int slips, String... plans) {
        BendYard x = new BendYard();
        for (int i = 0; i < plans.length; i++) {
            Check.same("plan " + plans[i], 0, Texts.compile(x, i, plans[i]));
        }
        for (int i = 0; i < slips; i++) {
            x.addSlip();
        }
        return x;
    }

    /** A yard with one slip that builds by the plan, and one plank. */
    static BendYard building(String plan, int wood, int length, int wetness, int tolerance) {
        BendYard x = withSlips(1, plan);
        x.addPlank(wood, length, wetness);
        x.start(0, 0, tolerance);
        return x;
    }

    static void planIs(BendYard x, int plan, int... due) {
        for (int what = 0; what < due.length; what++) {
            Check.same("plan(" + plan + ", " + what + ")", due[what], x.plan(plan, what));
        }
    }

    static void plankIs(BendYard x, int plank, int... due) {
        int tick = x.count(0);
        for (int what = 0; what < due.length; what++) {
            Check.same("plank(" + plank + ", " + what + ") at " + tick, due[what], x.plank(plank, what));
        }
    }

    static void framesAre(BendYard x, int sort, int... due) {
        int tick = x.count(0);
        for (int what = 0; what < due.length; what++) {
            Check.same("frames(" + sort + ", " + what + ") at " + tick, due[what], x.frames(sort, what));
        }
    }

    static void slipIs(BendYard x, int slip, int... due) {
        int tick = x.count(0);
        for (int what = 0; what < due.length; what++) {
            Check.same("slip(" + slip + ", " + what + ") at " + tick, due[what], x.slip(slip, what));
        }
    }

    /** Slip 0: the actions that are done, and the wetness, the heat and the cracks of its piece. */
    static void pieceIs(BendYard x, int actions, int wetness, int heat, int cracks) {
        int tick = x.count(0);
        Check.same("actions at " + tick, actions, x.slip(0, 2));
        Check.same("wetness at " + tick, wetness, x.slip(0, 6));
        Check.same("heat at " + tick, heat, x.slip(0, 7));
        Check.same("cracks at " + tick, cracks, x.slip(0, 8));
    }

    /** Slip 0: the three bends, then as many of the three targets as are due. */
    static void bendsAre(BendYard x, int... due) {
        int tick = x.count(0);
        for (int i = 0; i < due.length; i++) {
            boolean isTarget = i >= 3;
            Check.same("bend(0, " + i % 3 + ", " + isTarget + ") at " + tick, due[i], x.bend(0, i % 3, isTarget));
        }
    }

    static void countsAre(BendYard x, int... due) {
        for (int what = 0; what < due.length; what++) {
            Check.same("count(" + what + ") at " + due[0], due[what], x.count(what));
        }
    }

    static void hullIs(BendYard x, int index, int... due) {
        for (int what = 0; what < due.length; what++) {
            Check.same("hull(" + index + ", " + what + ")", due[what], x.hull(index, what));
        }
    }

    /** The digest that is due by what the yard tells, without wrapping around. */
    static BigInteger exactDigest(BendYard x) {
        List<Integer> told = new ArrayList<>();
        for (int i = 0; i < 9; i++) told.add(x.count(i));
        for (int i = 0; i < 24; i++) told.add(x.plan(i / 4, i % 4));
        for (int i = 0; i < told.get(1) * 5; i++) told.add(x.plank(i / 5, i % 5));
        for (int i = 0; i < 15; i++) told.add(x.frames(i / 3, i % 3));
        for (int slip = 0; slip < told.get(2); slip++) {
            for (int i = 0; i < 15; i++) told.add(x.slip(slip, i));
            for (int i = 0; i < 3; i++) told.add(x.bend(slip, i, false));
            for (int i = 0; i < 3; i++) told.add(x.bend(slip, i, true));
        }
        for (int i = 0; i < Math.min(40, told.get(5)) * 6; i++) told.add(x.hull(i / 6, i % 6));
        BigInteger d = BigInteger.valueOf(467);
        for (int number : told) {
            d = d.multiply(BigInteger.valueOf(31)).add(BigInteger.valueOf(number));
        }
        return d;
    }
}
