import java.util.ArrayList;
import java.util.Arrays;
import java.util.BitSet;
import java.util.Comparator;
import java.util.List;
import java.util.TreeSet;
import java.util.regex.Matcher;
import java.util.regex.Pattern;

/**
 * The document told a second time, as plainly as the whole Java library allows: texts by patterns and a tree, knots by
 * sets, ticks by lists. ModelTest holds the class against it.
 */
final class YardModel {
    static final List<String> FRAMES = List.of("bow", "stern", "rib", "side", "floor");
    static final List<String> WOODS = List.of("oak", "elm", "larch", "fir");
    private static final Pattern TOKEN = Pattern.compile("[a-z]+|[0-9]+|[;{}]");

    /** An error of a text. */
    static final class Wrong extends RuntimeException {
        private static final long serialVersionUID = 1;
        final int error;
        final int place;

        Wrong(int error, int place) {
            this.error = error;
            this.place = place;
        }
    }

    record Token(String text, int place) {
    }

    /** A step: a times with its steps, or an action. */
    record Step(Token word, List<Token> values, List<Step> inside) {
        int number(int i) {
            return Integer.parseInt(values.get(i).text());
        }
    }

    static final class Board {
        int wood;
        int length;
        int wetness;
        TreeSet<Integer> knots = new TreeSet<>();

        int longest() {
            int most = 0;
            while (placeOf(most + 1) >= 0) {
                most++;
            }
            return most;
        }

        int placeOf(int size) {
            for (int from = 0; from + size <= length; from++) {
                if (knots.subSet(from, from + size).isEmpty()) {
                    return from;
                }
            }
            return -1;
        }
    }

    static final class Work {
        boolean there;
        int wood;
        int wetness;
        int heat;
        int cracks;
        int[] bends = new int[3];
        int[] targets = new int[3];
    }

    static final class Berth {
        boolean builds;
        int planNumber = -1;
        List<Step> plan = List.of();
        int tolerance;
        int begun = -1;
        int done;
        int ticks;
        int parts;
        int flaw;
        int lost;
        Work work = new Work();
        BitSet held = new BitSet();
        int sort = -1;
        int since = -1;
        boolean lent;
    }

    byte[] tape = new byte[0];
    int errorAt = -1;
    List<List<Step>> plans = new ArrayList<>();
    List<Board> boards = new ArrayList<>();
    int[] frames = new int[5];
    List<Berth> berths = new ArrayList<>();
    List<int[]> hulls = new ArrayList<>();
    int tick;
    int lost;
    int waste;

    YardModel() {
        for (int i = 0; i < 6; i++) {
            plans.add(List.of());
        }
    }

    private static void argument(boolean isRight) {
        if (!isRight) {
            throw new IllegalArgumentException();
        }
    }

    private static void bounds(boolean isRight) {
        if (!isRight) {
            throw new IndexOutOfBoundsException();
        }
    }

    private static void state(boolean isRight) {
        if (!isRight) {
            throw new IllegalStateException();
        }
    }

    private static boolean within(int number, int least, int most) {
        return least <= number && number <= most;
    }

    int feed(int... numbers) {
        state(tape.length <= 980);
        byte[] more = Arrays.copyOf(tape, tape.length + 20);
        for (int i = 0; i < 20; i++) {
            more[tape.length + i] = (byte) (numbers[i / 4] >> 8 * (3 - i % 4));
        }
        tape = more;
        return tape.length;
    }

    int trim(int n) {
        argument(within(n, 0, tape.length));
        tape = Arrays.copyOf(tape, n);
        return n;
    }

    int compile(int plan) {
        bounds(within(plan, 0, 5));
        StringBuilder text = new StringBuilder();
        for (byte b : tape) {
            text.append((char) (b & 255));
        }
        tape = new byte[0];
        errorAt = -1;
        try {
            plans.set(plan, new Reader(text.toString()).plan());
            return 0;
        } catch (Wrong e) {
            errorAt = e.place;
            return e.error;
        }
    }

    /** Reads a text into a tree, then does it. */
    static final class Reader {
        private final List<Token> tokens = new ArrayList<>();
        private int next;

        Reader(String text) {
            int at = 0;
            Matcher matcher = TOKEN.matcher(text);
            while (true) {
                while (at < text.length() && (text.charAt(at) == ' ' || text.charAt(at) == '\n')) {
                    at++;
                }
                if (at == text.length()) {
                    tokens.add(new Token("", at));
                    return;
                }
                if (!matcher.region(at, text.length()).lookingAt()) {
                    tokens.add(new Token("?", at));
                    return;
                }
                tokens.add(new Token(matcher.group(), at));
                at = matcher.end();
            }
        }

        List<Step> plan() {
            List<Step> steps = new ArrayList<>();
            do {
                steps.add(step());
            } while (!tokens.get(next).text().isEmpty());
            Done done = new Done(new ArrayList<>(), new BitSet(), new boolean[2]);
            done.all(steps, 0);
            if (done.piece()[0] || !done.taken().isEmpty()) {
                throw new Wrong(3, tokens.get(next).place());
            }
            return done.actions();
        }

        private Token expect(boolean isRight) {
            Token token = tokens.get(next);
            if (!isRight) {
                throw new Wrong(1, token.place());
            }
            next++;
            return token;
        }

        private Token number() {
            return expect(tokens.get(next).text().matches("[0-9]{1,3}"));
        }

        private Token oneOf(List<String> words) {
            return expect(words.contains(tokens.get(next).text()));
        }

        private Step step() {
            Token word = oneOf(List.of("take", "give", "cut", "wet", "heat", "bend", "hold", "fit", "times"));
            List<Token> values = new ArrayList<>();
            List<Step> inside = new ArrayList<>();
            switch (word.text()) {
                case "take", "give" -> values.add(oneOf(FRAMES));
                case "cut" -> {
                    values.add(oneOf(WOODS));
                    values.add(number());
                }
                case "bend" -> {
                    values.add(number());
                    values.add(number());
                    values.add(number());
                }
                case "fit" -> {
                }
                case "times" -> {
                    values.add(number());
                    oneOf(List.of("{"));
                    do {
                        inside.add(step());
                    } while (!tokens.get(next).text().equals("}"));
                    next++;
                    return new Step(word, values, inside);
                }
                default -> values.add(number());
            }
            oneOf(List.of(";"));
            return new Step(word, values, inside);
        }
    }

    /** What was done of a plan: its actions, the frames that are taken, whether there is a piece and it is bent. */
    record Done(List<Step> actions, BitSet taken, boolean[] piece) {
        void all(List<Step> steps, int depth) {
            for (Step step : steps) {
                if (step.word().text().equals("times")) {
                    times(step, depth);
                } else {
                    action(step);
                }
            }
        }

        private void times(Step step, int depth) {
            if (depth == 3) {
                throw new Wrong(4, step.word().place());
            }
            limit(step, 0, 1, 9);
            for (int i = 0; i < step.number(0); i++) {
                all(step.inside(), depth + 1);
            }
        }

        private void limit(Step step, int i, int least, int most) {
            if (!within(step.number(i), least, most)) {
                throw new Wrong(2, step.values().get(i).place());
            }
        }

        private void action(Step step) {
            int frame = step.values().isEmpty() ? -1 : FRAMES.indexOf(step.values().get(0).text());
            boolean isRight = switch (step.word().text()) {
                case "take" -> !taken.get(frame);
                case "give" -> taken.get(frame);
                case "cut" -> !piece[0];
                case "hold" -> piece[0] && !taken.isEmpty();
                case "fit" -> piece[0] && piece[1];
                default -> piece[0];
            };
            if (!isRight) {
                throw new Wrong(3, step.word().place());
            }
            if (actions.size() == 60) {
                throw new Wrong(4, step.word().place());
            }
            switch (step.word().text()) {
                case "take", "give" -> taken.flip(frame);
                case "cut" -> {
                    limit(step, 1, 10, 200);
                    piece[0] = true;
                    piece[1] = false;
                }
                case "bend" -> {
                    for (int i = 0; i < 3; i++) {
                        limit(step, i, 0, 40);
                    }
                    piece[1] = true;
                }
                case "fit" -> piece[0] = false;
                default -> limit(step, 0, 1, 30);
            }
            actions.add(step);
        }
    }

    int errorAt() {
        return errorAt;
    }

    int plan(int plan, int what) {
        bounds(within(plan, 0, 5) && within(what, 0, 3));
        int[] sums = new int[4];
        for (Step step : plans.get(plan)) {
            sums[0]++;
            switch (step.word().text()) {
                case "cut" -> {
                    sums[1]++;
                    sums[2] += step.number(1);
                    sums[3]++;
                }
                case "wet", "heat", "hold" -> sums[3] += step.number(0);
                default -> sums[3]++;
            }
        }
        return sums[what];
    }

    int addPlank(int wood, int length, int wetness) {
        argument(within(wood, 0, 3) && within(length, 10, 300) && within(wetness, 0, 100));
        state(boards.size() < 60);
        Board board = new Board();
        board.wood = wood;
        board.length = length;
        board.wetness = wetness;
        boards.add(board);
        return boards.size() - 1;
    }

    int addKnot(int plank, int place) {
        bounds(within(plank, 0, boards.size() - 1));
        Board board = boards.get(plank);
        argument(within(place, 0, board.length - 1));
        state(board.knots.size() < 8 && board.knots.add(place));
        return board.knots.size();
    }

    int plank(int plank, int what) {
        bounds(within(plank, 0, boards.size() - 1) && within(what, 0, 4));
        Board b = boards.get(plank);
        return switch (what) {
            case 0 -> b.wood;
            case 1 -> b.length;
            case 2 -> b.wetness;
            case 3 -> b.knots.size();
            default -> b.longest();
        };
    }

    int find(int wood, int length, boolean isPlace) {
        argument(within(wood, 0, 3) && within(length, 10, 200));
        Board best = best(wood, length);
        return best == null ? -1 : isPlace ? best.placeOf(length) : boards.indexOf(best);
    }

    private Board best(int wood, int length) {
        return boards.stream().filter(b -> b.wood == wood && b.placeOf(length) >= 0)
                .min(Comparator.comparingInt(b -> b.length)).orElse(null);
    }

    int addFrame(int sort) {
        argument(within(sort, 0, 4));
        state(frames[sort] < 4);
        return ++frames[sort];
    }

    private int free(int sort) {
        return frames[sort] - (int) berths.stream().filter(b -> b.held.get(sort)).count();
    }

    int frames(int sort, int what) {
        bounds(within(sort, 0, 4) && within(what, 0, 2));
        int waiting = (int) berths.stream().filter(b -> b.sort == sort).count();
        return what == 0 ? frames[sort] : what == 1 ? free(sort) : waiting;
    }

    int addSlip() {
        state(berths.size() < 6);
        berths.add(new Berth());
        return berths.size() - 1;
    }

    int start(int slip, int plan, int tolerance) {
        bounds(within(slip, 0, berths.size() - 1));
        argument(within(plan, 0, 5) && within(tolerance, 0, 60));
        state(!plans.get(plan).isEmpty() && !berths.get(slip).builds);
        Berth berth = new Berth();
        berth.builds = true;
        berth.planNumber = plan;
        berth.plan = plans.get(plan);
        berth.tolerance = tolerance;
        berth.begun = tick;
        berths.set(slip, berth);
        return count(3);
    }

    int lend(int from, int to, int sort) {
        bounds(within(from, 0, berths.size() - 1) && within(to, 0, berths.size() - 1));
        argument(from != to && within(sort, 0, 4));
        Berth lender = berths.get(from);
        Berth borrower = berths.get(to);
        state(lender.held.get(sort) && !lender.lent && borrower.sort == sort);
        lender.held.clear(sort);
        hold(borrower, sort);
        lender.sort = sort;
        lender.since = tick;
        lender.lent = true;
        return count(4);
    }

    private static void hold(Berth berth, int sort) {
        berth.held.set(sort);
        berth.sort = -1;
        berth.since = -1;
        berth.lent = false;
    }

    int slip(int slip, int what) {
        bounds(within(slip, 0, berths.size() - 1) && within(what, 0, 14));
        Berth b = berths.get(slip);
        int held = (int) (b.held.isEmpty() ? 0 : b.held.toLongArray()[0]);
        return new int[] {b.builds ? 1 : 0, b.planNumber, b.done, b.parts, b.flaw, b.work.there ? 1 : 0, b.work.wetness,
            b.work.heat, b.work.cracks, b.sort, b.since, b.lent ? 1 : 0, held, b.lost, b.begun}[what];
    }

    int bend(int slip, int index, boolean isTarget) {
        bounds(within(slip, 0, berths.size() - 1) && within(index, 0, 2));
        Work work = berths.get(slip).work;
        return (isTarget ? work.targets : work.bends)[index];
    }

    int stuck() {
        List<Berth> left = new ArrayList<>(berths);
        BitSet given = new BitSet();
        for (int sort = 0; sort < 5; sort++) {
            given.set(sort, free(sort) > 0);
        }
        boolean isChanged = true;
        while (isChanged) {
            isChanged = false;
            for (Berth b : List.copyOf(left)) {
                if (b.sort < 0 || given.get(b.sort)) {
                    given.or(b.held);
                    left.remove(b);
                    isChanged = true;
                }
            }
        }
        int set = 0;
        for (int i = 0; i < berths.size(); i++) {
            set += left.contains(berths.get(i)) ? 1 << i : 0;
        }
        return set;
    }

    int run(int ticks) {
        argument(within(ticks, 1, 200));
        int before = hulls.size();
        for (int i = 0; i < ticks; i++) {
            oneTick();
        }
        return hulls.size() - before;
    }

    private void oneTick() {
        tick++;
        berths.stream().filter(b -> b.sort >= 0).sorted(Comparator.comparingInt((Berth b) -> b.since)).toList()
                .forEach(b -> {
                    if (free(b.sort) > 0) {
                        hold(b, b.sort);
                    }
                });
        for (Berth b : berths) {
            if (b.builds && !b.lent) {
                act(b);
            }
        }
        if (tick % 5 == 0) {
            for (Board b : boards) {
                b.wetness += b.length == 0 ? 0 : Integer.compare(15, b.wetness);
            }
        }
    }

    private void act(Berth b) {
        Step step = b.plan.get(b.done);
        Work w = b.work;
        int number = step.values().isEmpty() ? 0 : step.word().text().matches("wet|heat|hold") ? step.number(0) : 0;
        switch (step.word().text()) {
            case "take" -> {
                int sort = FRAMES.indexOf(step.values().get(0).text());
                if (b.held.get(sort)) {
                    done(b);
                } else if (b.sort < 0) {
                    b.sort = sort;
                    b.since = tick;
                }
            }
            case "give" -> {
                b.held.clear(FRAMES.indexOf(step.values().get(0).text()));
                done(b);
            }
            case "cut" -> cut(b, WOODS.indexOf(step.values().get(0).text()), step.number(1));
            case "wet" -> {
                w.wetness = Math.min(100, w.wetness + 8);
                w.heat = Math.max(20, w.heat - 10);
                tickOver(b, number);
            }
            case "heat" -> {
                w.heat = Math.min(200, w.heat + 25);
                w.wetness = Math.max(0, w.wetness - 3);
                if (w.heat > 150 && w.wetness < 10) {
                    lose(b);
                } else {
                    tickOver(b, number);
                }
            }
            case "hold" -> {
                w.wetness = Math.max(0, w.wetness - 4);
                w.heat = Math.max(20, w.heat - 15);
                tickOver(b, number);
            }
            case "bend" -> bend(b, new int[] {step.number(0), step.number(1), step.number(2)});
            default -> fit(b);
        }
    }

    private void tickOver(Berth b, int number) {
        b.ticks++;
        if (b.ticks == number) {
            done(b);
        }
    }

    private void done(Berth b) {
        b.done++;
        b.ticks = 0;
        if (b.done == b.plan.size()) {
            b.builds = false;
            hulls.add(new int[] {berths.indexOf(b), b.planNumber, b.parts, b.flaw, b.begun, tick});
        }
    }

    private void lose(Berth b) {
        b.work = new Work();
        b.ticks = 0;
        b.lost++;
        lost++;
        do {
            b.done--;
        } while (!b.plan.get(b.done).word().text().equals("cut"));
    }

    private void cut(Berth b, int wood, int length) {
        Board board = best(wood, length);
        if (board == null) {
            return;
        }
        int place = board.placeOf(length);
        b.work.there = true;
        b.work.wood = wood;
        b.work.wetness = board.wetness;
        b.work.heat = 20;
        int behind = board.length - place - length;
        if (behind >= 10 && boards.size() < 60) {
            Board rest = boards.get(addPlank(wood, behind, board.wetness));
            for (int knot : board.knots.tailSet(place + length)) {
                rest.knots.add(knot - place - length);
            }
        } else {
            waste += behind;
        }
        board.length = place >= 10 ? place : 0;
        waste += place >= 10 ? 0 : place;
        board.knots = new TreeSet<>(board.knots.headSet(board.length));
        done(b);
    }

    private void bend(Berth b, int[] targets) {
        Work w = b.work;
        w.targets = targets;
        int g = w.heat * (w.wetness + 20) / (100 * new int[] {8, 6, 5, 4}[w.wood]);
        if (g == 0 && !Arrays.equals(w.bends, targets)) {
            w.cracks++;
        }
        if (w.cracks == 3) {
            lose(b);
            return;
        }
        for (int i = 0; i < 3; i++) {
            w.bends[i] += Math.max(-g, Math.min(g, targets[i] - w.bends[i]));
        }
        w.heat = Math.max(20, w.heat - 10);
        w.wetness = Math.max(0, w.wetness - 1);
        if (Arrays.equals(w.bends, targets)) {
            done(b);
        }
    }

    private void fit(Berth b) {
        int flaw = 0;
        for (int i = 0; i < 3; i++) {
            int bend = b.work.bends[i] - b.work.bends[i] * b.work.wetness / 200;
            flaw += Math.abs(bend - b.work.targets[i]);
        }
        if (flaw > b.tolerance) {
            lose(b);
            return;
        }
        b.work = new Work();
        b.parts++;
        b.flaw += flaw;
        done(b);
    }

    int count(int what) {
        bounds(within(what, 0, 8));
        int building = (int) berths.stream().filter(b -> b.builds).count();
        int waiting = (int) berths.stream().filter(b -> b.sort >= 0).count();
        int lengths = boards.stream().mapToInt(b -> b.length).sum();
        return new int[] {tick, boards.size(), berths.size(), building, waiting, hulls.size(), lost, waste, lengths}[what];
    }

    private int kept() {
        return Math.min(40, hulls.size());
    }

    int hull(int index, int what) {
        bounds(within(index, 0, kept() - 1) && within(what, 0, 5));
        return hulls.get(index)[what];
    }

    /** Foresees by a yard to which the same calls were made; this one is spent by it. */
    int foreseeBySpending(int ticks, int what) {
        argument(within(ticks, 1, 200));
        bounds(within(what, 0, 3));
        int hullsBefore = hulls.size();
        int lostBefore = lost;
        run(ticks);
        int first = hulls.size() > hullsBefore ? hulls.get(hullsBefore)[5] : -1;
        return new int[] {hulls.size() - hullsBefore, lost - lostBefore, stuck(), first}[what];
    }

    double flaw() {
        int flaws = 0;
        int parts = 0;
        for (int[] hull : hulls.subList(0, kept())) {
            flaws += hull[3];
            parts += hull[2];
        }
        return parts == 0 ? 0 : (double) flaws / parts;
    }

    long digest() {
        List<Integer> told = new ArrayList<>();
        add(told, 1, 9, (i, what) -> count(what));
        add(told, 6, 4, this::plan);
        add(told, boards.size(), 5, this::plank);
        add(told, 5, 3, this::frames);
        for (int slip = 0; slip < berths.size(); slip++) {
            int number = slip;
            add(told, 1, 15, (i, what) -> slip(number, what));
            add(told, 2, 3, (i, what) -> bend(number, what, i == 1));
        }
        add(told, kept(), 6, this::hull);
        long d = 467;
        for (int x : told) {
            d = d * 31 + x;
        }
        return d;
    }

    private interface Teller {
        int tell(int of, int what);
    }

    private static void add(List<Integer> told, int many, int facts, Teller teller) {
        for (int i = 0; i < many; i++) {
            for (int what = 0; what < facts; what++) {
                told.add(teller.tell(i, what));
            }
        }
    }
}
