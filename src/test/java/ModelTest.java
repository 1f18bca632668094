import java.util.ArrayList;
import java.util.List;
import java.util.Random;
import java.util.function.Function;

/** Random calls, the same ones on the class and on the model; each answer and each exception has to be the same. */
public final class ModelTest {
    private static final int RUNS = 400;
    /** With the last plan that is told it comes to 512 at most. */
    private static final int CALLS = 480;

    private final Random random;
    private final int seed;
    private BendYard yard = new BendYard();
    private YardModel model = new YardModel();
    private final List<Function<YardModel, Long>> made = new ArrayList<>();
    private int calls = 0;

    private ModelTest(int seed) {
        this.seed = seed;
        random = new Random(seed);
    }

    public static void main(String[] args) {
        for (int seed = 0; seed < RUNS; seed++) {
            new ModelTest(seed).oneRun();
        }
        for (int seed = 0; seed < 20000; seed++) {
            new ModelTest(seed).oneText();
        }
        Check.end("ModelTest");
    }

    private int upTo(int bound) {
        return random.nextInt(bound);
    }

    /** Mostly a number of 0 to bound - 1, now and then one beside it. */
    private int about(int bound) {
        if (upTo(25) == 0) {
            return upTo(2) == 0 ? -1 - upTo(2) : bound + upTo(2);
        }
        return bound > 0 ? upTo(bound) : 0;
    }

    private void both(String what, Check.Call call, Function<YardModel, Long> modelCall) {
        calls++;
        String due = Check.outcome(() -> modelCall.apply(model));
        made.add(modelCall);
        Check.sameText("seed " + seed + ", call " + calls + ": " + what, due, Check.outcome(call));
    }

    private void oneText() {
        String text = upTo(2) == 0 ? mangled(text()) : otherOfGoodForm(text());
        tell(text.substring(0, Math.min(1000, text.length())));
        compile(0);
    }

    private void oneRun() {
        repeat(upTo(30), this::addPlank);
        repeat(upTo(20), this::addFrame);
        repeat(1 + upTo(6), this::addSlip);
        int plans = 1 + upTo(6);
        for (int i = 0; i < plans; i++) {
            tellPlan(i);
        }
        int kinds = upTo(2) == 0 ? 40 : 30;
        while (calls < CALLS) {
            step(upTo(kinds));
        }
    }

    private static void repeat(int times, Runnable call) {
        for (int i = 0; i < times; i++) {
            call.run();
        }
    }

    private void step(int which) {
        switch (which) {
            case 0 -> addPlank();
            case 1, 2 -> addKnot();
            case 3 -> addFrame();
            case 4 -> addSlip();
            case 5 -> tellPlan(upTo(4) == 0 ? about(6) : upTo(6));
            case 6 -> foresee();
            case 7, 8, 9 -> lend();
            case 10 -> tellPlank();
            case 11 -> find();
            case 12 -> both("stuck()", () -> yard.stuck(), m -> (long) m.stuck());
            case 13 -> tellPlanFacts();
            case 14 -> tellHull();
            case 15 -> tellSlip();
            case 16 -> trim();
            case 17, 18, 19, 20, 21, 22 -> start();
            default -> run();
        }
        both("digest()", () -> yard.digest(), YardModel::digest);
        if (upTo(8) == 0) {
            both("flaw()", () -> Double.doubleToLongBits(yard.flaw()), m -> Double.doubleToLongBits(m.flaw()));
            both("stuck()", () -> yard.stuck(), m -> (long) m.stuck());
        }
    }

    private void addPlank() {
        int wood = about(4);
        int length = upTo(3) == 0 ? about(301) : 10 + upTo(80);
        int wetness = about(101);
        both("addPlank " + wood + " " + length + " " + wetness, () -> yard.addPlank(wood, length, wetness),
                m -> (long) m.addPlank(wood, length, wetness));
    }

    private void addKnot() {
        int plank = about(model.boards.size());
        int place = about(upTo(2) == 0 ? 20 : 100);
        both("addKnot " + plank + " " + place, () -> yard.addKnot(plank, place), m -> (long) m.addKnot(plank, place));
    }

    private void addFrame() {
        int sort = about(5);
        both("addFrame " + sort, () -> yard.addFrame(sort), m -> (long) m.addFrame(sort));
    }

    private void addSlip() {
        both("addSlip", () -> yard.addSlip(), m -> (long) m.addSlip());
    }

    private void start() {
        int slip = about(model.berths.size());
        int plan = about(6);
        for (int i = 0; i < 12 && upTo(9) > 0; i++) {
            slip = !model.berths.isEmpty() ? i % model.berths.size() : slip;
            plan = model.plans.get(i % 6).isEmpty() ? plan : i % 6;
            if (i >= upTo(6) && !model.berths.isEmpty() && !model.berths.get(slip).builds) {
                break;
            }
        }
        start(slip, plan, about(upTo(2) == 0 ? 61 : 10));
    }

    private void start(int slip, int plan, int tolerance) {
        both("start " + slip + " " + plan + " " + tolerance, () -> yard.start(slip, plan, tolerance),
                m -> (long) m.start(slip, plan, tolerance));
    }

    private void run() {
        int ticks = upTo(12) == 0 ? about(201) : 1 + upTo(6);
        both("run " + ticks, () -> yard.run(ticks), m -> (long) m.run(ticks));
    }

    /** A lend that can be, if there is one, else any. */
    private void lend() {
        int from = about(model.berths.size());
        int to = about(model.berths.size());
        int sort = about(5);
        for (int i = 0; i < model.berths.size() && upTo(10) > 0; i++) {
            for (int j = 0; j < model.berths.size(); j++) {
                int wanted = model.berths.get(j).sort;
                if (wanted >= 0 && model.berths.get(i).held.get(wanted)) {
                    lend(i, j, wanted);
                    return;
                }
            }
        }
        lend(from, to, sort);
    }

    private void lend(int from, int to, int sort) {
        both("lend " + from + " " + to + " " + sort, () -> yard.lend(from, to, sort), m -> (long) m.lend(from, to, sort));
    }

    private void tellPlank() {
        int plank = about(model.boards.size());
        int what = about(5);
        both("plank " + plank + " " + what, () -> yard.plank(plank, what), m -> (long) m.plank(plank, what));
    }

    private void find() {
        int wood = about(4);
        int length = upTo(2) == 0 ? 10 + upTo(40) : about(201);
        boolean isPlace = upTo(2) == 0;
        both("find " + wood + " " + length, () -> yard.find(wood, length, isPlace), m -> (long) m.find(wood, length, isPlace));
    }

    private void tellPlanFacts() {
        int plan = about(6);
        int what = about(4);
        both("plan " + plan + " " + what, () -> yard.plan(plan, what), m -> (long) m.plan(plan, what));
        int sort = about(5);
        int fact = about(3);
        both("frames " + sort + " " + fact, () -> yard.frames(sort, fact), m -> (long) m.frames(sort, fact));
    }

    private void tellHull() {
        int index = about(Math.min(41, model.hulls.size()));
        int what = about(6);
        both("hull " + index + " " + what, () -> yard.hull(index, what), m -> (long) m.hull(index, what));
        int fact = about(9);
        both("count " + fact, () -> yard.count(fact), m -> (long) m.count(fact));
    }

    private void tellSlip() {
        int slip = about(model.berths.size());
        int what = about(15);
        both("slip " + slip + " " + what, () -> yard.slip(slip, what), m -> (long) m.slip(slip, what));
        int index = about(3);
        boolean isTarget = upTo(2) == 0;
        both("bend " + slip + " " + index, () -> yard.bend(slip, index, isTarget), m -> (long) m.bend(slip, index, isTarget));
    }

    private void trim() {
        int n = about(21);
        both("trim " + n, () -> yard.trim(n), m -> (long) m.trim(n));
    }

    /** The model foresees by a second one, to which all calls so far are made again. */
    private void foresee() {
        int ticks = upTo(2) == 0 ? 1 + upTo(30) : about(201);
        int what = about(4);
        calls++;
        YardModel second = new YardModel();
        for (Function<YardModel, Long> call : made) {
            Check.outcome(() -> call.apply(second));
        }
        String due = Check.outcome(() -> second.foreseeBySpending(ticks, what));
        Check.sameText("seed " + seed + ": foresee " + ticks + " " + what, due,
                Check.outcome(() -> yard.foresee(ticks, what)));
    }

    private void tellPlan(int plan) {
        String text = text();
        if (upTo(6) == 0) {
            text = mangled(text);
        }
        tell(text.substring(0, Math.min(400, text.length())));
        compile(plan);
    }

    private void tell(String text) {
        for (int i = 0; i < text.length(); i += 20) {
            int at = i;
            both("feed", () -> yard.feed(Texts.four(text, at), Texts.four(text, at + 4), Texts.four(text, at + 8),
                    Texts.four(text, at + 12), Texts.four(text, at + 16)),
                    m -> (long) m.feed(Texts.four(text, at), Texts.four(text, at + 4), Texts.four(text, at + 8),
                            Texts.four(text, at + 12), Texts.four(text, at + 16)));
        }
        int length = model.tape.length - Math.floorMod(-text.length(), 20);
        both("trim " + length, () -> yard.trim(length), m -> (long) m.trim(length));
    }

    private void compile(int plan) {
        both("compile " + plan, () -> yard.compile(plan), m -> (long) m.compile(plan));
        both("errorAt", () -> yard.errorAt(), m -> (long) m.errorAt());
    }

    /** A text of a plan that is right in most cases. */
    private String text() {
        StringBuilder text = new StringBuilder();
        boolean[] taken = new boolean[5];
        int parts = Math.max(0, upTo(7) - 2);
        for (int i = 0; i < parts; i++) {
            changeFrames(text, taken);
            part(text, taken);
        }
        changeFrames(text, taken);
        for (int sort = 0; sort < 5; sort++) {
            if (taken[sort]) {
                text.append("give ").append(YardModel.FRAMES.get(sort)).append("; ");
            }
        }
        if (text.length() == 0) {
            text.append("take rib; give rib; ");
        }
        return text.toString();
    }

    private void changeFrames(StringBuilder text, boolean[] taken) {
        for (int i = upTo(3); i > 0; i--) {
            int sort = upTo(3) == 0 ? upTo(5) : upTo(3);
            text.append(taken[sort] ? "give " : "take ").append(YardModel.FRAMES.get(sort)).append("; ");
            taken[sort] = !taken[sort];
        }
    }

    private void part(StringBuilder text, boolean[] taken) {
        int times = upTo(4) == 0 ? 1 + upTo(3) : 0;
        text.append(times > 0 ? "times " + times + "{" : "");
        text.append("cut ").append(YardModel.WOODS.get(upTo(4))).append(upTo(2) == 0 ? " " : "").append(10 + upTo(30)).append("; ");
        for (int i = upTo(4); i > 0; i--) {
            boolean isHeld = taken[0] || taken[1] || taken[2] || taken[3] || taken[4];
            treatment(text, upTo(isHeld ? 3 : 2));
        }
        if (times == 0) {
            changeFrames(text, taken);
        }
        for (int i = 1 + upTo(5) / 3; i > 0; i--) {
            int most = upTo(3) == 0 ? 41 : 12;
            text.append("bend ").append(upTo(most)).append(" ").append(upTo(most)).append(" ").append(upTo(most)).append(";\n");
            treatment(text, upTo(2));
        }
        text.append("fit;").append(times > 0 ? "} " : " ");
    }

    private void treatment(StringBuilder text, int which) {
        String[] words = {"wet ", "heat ", "hold "};
        text.append(words[which]).append(1 + upTo(which == 1 ? 8 : 5)).append("; ");
    }

    /** A text with numbers, actions and loops put in, so that its form stays right. */
    private String otherOfGoodForm(String text) {
        String[] actions = {"take rib;", "give rib;", "take bow;", "give bow;", "cut oak 20;", "wet 1;", "heat 1;", "hold 1;",
            "bend 1 1 1;", "fit;"};
        String[] numbers = {" 0", " 1", " 9", " 10", " 30", " 31", " 40", " 41", " 200", " 201"};
        List<String> pieces = new ArrayList<>(List.of(text.trim().split("(?<=[;{}])")));
        for (int i = upTo(5); i > 0; i--) {
            int at = upTo(pieces.size());
            switch (upTo(6)) {
                case 0 -> pieces.set(at, pieces.get(at).replaceFirst(" [0-9]+", numbers[upTo(numbers.length)]));
                case 1 -> pieces.add(at, actions[upTo(actions.length)]);
                default -> putIntoLoop(pieces, at);
            }
        }
        return String.join("", pieces);
    }

    /** Puts the pieces from about a place on, as far as braces agree, into a loop. */
    private void putIntoLoop(List<String> pieces, int at) {
        int depth = 0;
        int till = at;
        int least = at + upTo(pieces.size());
        for (int i = at; i < pieces.size() && depth >= 0; i++) {
            depth += pieces.get(i).endsWith("{") ? 1 : pieces.get(i).endsWith("}") ? -1 : 0;
            if (depth == 0 && (till <= least || till == at)) {
                till = i + 1;
            }
        }
        if (till > at) {
            pieces.add(till, "}");
            pieces.add(at, "times " + (upTo(5) == 0 ? upTo(11) : 1 + upTo(3)) + "{");
        }
    }

    /** A text of which some bytes, words or numbers are changed. */
    private String mangled(String text) {
        StringBuilder changed = new StringBuilder(text);
        String[] bits = {"times 2 {", "}", ";", " ", "0", "41", "times 9{times 9{", "take rib;", "give rib;", "fit;", "hold 3;",
            "cut oak 20;", "bend 1 1 1;", "times 3{times 1{times 2{times 2{", "}}}", "\u00e9", "A", "zzz"};
        for (int i = upTo(5) / 2; i >= 0; i--) {
            int at = upTo(changed.length() + 1);
            int till = Math.min(changed.length(), at + (upTo(2) == 0 ? 0 : upTo(6)));
            if (upTo(4) > 0) {
                at = changed.indexOf(";", at) + 1;
                till = upTo(2) == 0 ? changed.indexOf(";", at) + 1 : at;
            }
            String bit = upTo(3) == 0 ? "" : bits[upTo(bits.length)];
            changed.replace(at, Math.max(at, till), bit);
            if (upTo(3) == 0) {
                int open = changed.indexOf(";") + 1;
                int close = changed.lastIndexOf(";") + 1;
                changed.insert(close, upTo(9) == 0 ? "" : "}").insert(Math.min(open, close), "times " + upTo(11) + "{");
            }
        }
        return changed.toString();
    }
}
