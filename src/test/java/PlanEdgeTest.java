/**
 * Promises 1 to 6 and "1. Plans", sentence by sentence in the order of the document: the boundaries that no other test
 * has for itself.
 */
public final class PlanEdgeTest {
    private static final String GOOD = "take rib;give rib;";
    private static final String[][] FORMS = {
        {"take", "frame", ";"}, {"give", "frame", ";"}, {"cut", "wood", "number", ";"}, {"wet", "number", ";"},
        {"heat", "number", ";"}, {"bend", "number", "number", "number", ";"}, {"hold", "number", ";"}, {"fit", ";"},
        {"times", "number", "{"}};
    private static final String[] STEPS = {"take", "give", "cut", "wet", "heat", "bend", "hold", "fit", "times"};

    public static void main(String[] args) {
        theLastCall();
        aNewTapeIsEmpty();
        aFullTape();
        aRefusedFeedLeavesTheTape();
        feedTakesAnyNumber();
        trimKeepsTheFirstBytes();
        compileEmptiesTheTape();
        onlyTwoBytesAreBlank();
        tokensThatWouldBeReadAsOne();
        theLongestTokenIsRead();
        wordsAndNumbersThatAreTooLong();
        everyTokenOfEveryForm();
        stepsBehindSteps();
        theEndOfTheTape();
        formIsLookedAtFirst();
        everyNumber();
        everyNumberOfBend();
        framesThatAreTakenOrGiven();
        piecesThatAreThereOrNot();
        holdNeedsAFrame();
        fitNeedsABend();
        timesInOthers();
        sixtyActions();
        whatIsLeftAtTheEnd();
        twoErrorsAtOneToken();
        theFirstErrorAsItIsDone();
        framesAndWoodsFromZero();
        sixPlans();
        whatAnErrorLeaves();
        errorAtOfTheLatestCompile();
        greatestFacts();
        sixtyActionsAreDone();
        thirtyTicksAreDone();
        Check.end("PlanEdgeTest");
    }

    /** "An object is used for at most 512 calls": the 512th one is promised still. */
    private static void theLastCall() {
        BendYard x = new BendYard();
        x.addPlank(0, 10, 100);
        for (int i = 0; i < 510; i++) {
            Check.same("hulls of an empty yard", 0, x.run(200));
        }
        Check.same("the 512th call", 510 * 200, x.count(0));
    }

    /** "at first empty" */
    private static void aNewTapeIsEmpty() {
        BendYard x = new BendYard();
        Check.refuses(x, "trim(1) of a new tape", Texts.ARGUMENT, () -> x.trim(1));
        Check.same("trim(0) of a new tape", 0, x.trim(0));
        Check.same("first feed", 20, x.feed(0, 0, 0, 0, 0));
    }

    /** "at most 1000 bytes": 1000 are compiled to the last one. */
    private static void aFullTape() {
        Texts.errorIs(" ".repeat(1000 - GOOD.length()) + GOOD, 0, -1);
        Texts.errorIs(" ".repeat(1000 - GOOD.length()) + "take rib;give rib ", 1, 1000);
        Texts.errorIs(GOOD + " ".repeat(1000 - GOOD.length() - 1) + "?", 1, 999);
        Texts.errorIs("take bow;" + " ".repeat(973) + GOOD, 3, 1000);
    }

    /** "if there would be more than 1000": not a byte of the twenty is appended, nor is one changed. */
    private static void aRefusedFeedLeavesTheTape() {
        for (int length : new int[] {981, 999, 1000}) {
            BendYard x = new BendYard();
            Texts.write(x, " ".repeat(length - GOOD.length()) + GOOD);
            Check.refuses(x, "feed behind " + length, Texts.STATE, () -> x.feed(-1, -1, -1, -1, -1));
            Check.refuses(x, "trim above " + length, Texts.ARGUMENT, () -> x.trim(length + 1));
            Check.same("trim of " + length, length, x.trim(length));
            Check.same("compile of " + length, 0, x.compile(0));
        }
        BendYard y = new BendYard();
        Texts.write(y, " ".repeat(980));
        Check.same("feed behind 980", 1000, y.feed(0, 0, 0, 0, 0));
    }

    /** "the four bytes of each number, the highest one first": also of numbers below 0. */
    private static void feedTakesAnyNumber() {
        for (int place = 0; place < 20; place++) {
            BendYard x = new BendYard();
            int[] numbers = {0x20202020, 0x20202020, 0x20202020, 0x20202020, 0x20202020};
            numbers[place / 4] = 0x20202020 & ~(255 << 8 * (3 - place % 4)) | 255 << 8 * (3 - place % 4);
            Check.same("feed", 20, x.feed(numbers[0], numbers[1], numbers[2], numbers[3], numbers[4]));
            Check.same("byte 255 at " + place, 1, x.compile(0));
            Check.same("errorAt of byte 255 at " + place, place, x.errorAt());
        }
    }

    /** "Shortens the tape to its first bytes", "if n is not 0 to the number of bytes of the tape" */
    private static void trimKeepsTheFirstBytes() {
        BendYard x = new BendYard();
        Texts.write(x, "take rib;take bow;");
        for (int n : new int[] {Integer.MIN_VALUE, -1, 19, 20, Integer.MAX_VALUE}) {
            Check.refuses(x, "trim(" + n + ") of 18", Texts.ARGUMENT, () -> x.trim(n));
        }
        Check.same("trim to all", 18, x.trim(18));
        Check.same("trim to half", 9, x.trim(9));
        Check.refuses(x, "trim to all again", Texts.ARGUMENT, () -> x.trim(10));
        Check.same("feed behind the half", 29, x.feed(Texts.four("give", 0), Texts.four(" rib", 0), Texts.four(";", 0),
                0x20202020, 0x20202020));
        Check.same("compile of both halves", 0, x.compile(0));
        Texts.write(x, "take rib;take bow;");
        Check.same("trim to nothing", 0, x.trim(0));
        Check.same("compile of nothing", 1, x.compile(0));
        Check.same("errorAt of nothing", 0, x.errorAt());
    }

    /** "compile reads it, and it is empty behind it": behind each kind of error too, but not behind an exception. */
    private static void compileEmptiesTheTape() {
        String[] texts = {GOOD, "take", "wet", "times 0{fit;}", "fit;", "take rib;", "times1{times1{times1{times1{fit;}}}}"};
        int[] errors = {0, 1, 1, 2, 3, 3, 4};
        for (int i = 0; i < texts.length; i++) {
            BendYard x = new BendYard();
            Texts.write(x, texts[i]);
            int length = texts[i].length();
            Check.refuses(x, "compile(6) of '" + texts[i] + "'", Texts.BOUNDS, () -> x.compile(6));
            Check.same("the tape behind a refused compile", length, x.trim(length));
            Check.same("compile of '" + texts[i] + "'", errors[i], x.compile(0));
            Check.refuses(x, "trim behind '" + texts[i] + "'", Texts.ARGUMENT, () -> x.trim(1));
            Check.same("an empty tape", 1, x.compile(0));
            Check.same("errorAt of an empty tape", 0, x.errorAt());
        }
    }

    /** "Blanks (32) and line ends (10) can stand between tokens, at the beginning and at the end" */
    private static void onlyTwoBytesAreBlank() {
        for (int b = 0; b < 256; b++) {
            char sign = (char) b;
            int error = b == 32 || b == 10 ? 0 : 1;
            boolean isLetter = sign >= 'a' && sign <= 'z';
            Texts.errorIs(sign + GOOD, error, error == 0 ? -1 : 0);
            Texts.errorIs("take" + sign + "rib;give rib;", error, error == 0 ? -1 : isLetter ? 0 : 4);
            Texts.errorIs("take rib" + sign + ";give rib;", error, error == 0 ? -1 : isLetter ? 5 : sign == ';' ? 9 : 8);
            Texts.errorIs("take rib;" + sign + "give rib;", error, error == 0 ? -1 : 9);
            Texts.errorIs(GOOD + sign, error, error == 0 ? -1 : 18);
        }
        Texts.errorIs("\ntimes\n2\n{\ntake\nrib\n;\ngive\nrib\n;\n}\n", 0, -1);
        Texts.errorIs("  times  2  {  take  rib  ;  give  rib  ;  }  ", 0, -1);
        Texts.errorIs("times2{take rib;give rib;}", 0, -1);
    }

    /** "and have to stand between two tokens that would otherwise be read as one" */
    private static void tokensThatWouldBeReadAsOne() {
        Texts.errorIs("takerib;give rib;", 1, 0);
        Texts.errorIs("take rib;giverib;", 1, 9);
        Texts.errorIs("cutoak 20;bend 1 1 1;fit;", 1, 0);
        Texts.errorIs("cut oak 20;bend 1 11;fit;", 1, 20);
        Texts.errorIs("cut oak 20;bend 111;fit;", 1, 19);
        Texts.errorIs("cut oak20;wet5;heat5;bend0 0 0;fit;", 0, -1);
        Texts.errorIs("cut oak 2 0;bend 1 1 1;fit;", 1, 10);
        Texts.errorIs("ta ke rib;give rib;", 1, 0);
    }

    /** "The longest possible token is always read": never a shorter one that would be right. */
    private static void theLongestTokenIsRead() {
        Texts.errorIs("fitfit;", 1, 0);
        Texts.errorIs("take ribs;", 1, 5);
        Texts.errorIs("take ribside;", 1, 5);
        Texts.errorIs("wet 300;", 3, 0);
        Texts.errorIs("cut oak 20;wet 300;", 2, 15);
        Texts.errorIs("cut oak 1001;", 1, 8);
        Texts.errorIs("timess 2{take rib;give rib;}", 1, 0);
    }

    /** "letters a to z, at most 8 in all", "1 to 3 digits", "a word or number that is too long" */
    private static void wordsAndNumbersThatAreTooLong() {
        for (int letters : new int[] {1, 7, 8, 9, 13, 14, 50, 900}) {
            Texts.errorIs(GOOD + "z".repeat(letters), 1, 18);
            Texts.errorIs("take " + "z".repeat(letters) + ";", 1, 5);
        }
        Texts.errorIs("cut oak 020;bend 000 040 000;fit;", 0, -1);
        Texts.errorIs("times 009{take rib;give rib;}", 0, -1);
        Texts.errorIs("times 0009{take rib;give rib;}", 1, 6);
        Texts.errorIs("cut oak 20;bend 0000 1 1;fit;", 1, 16);
        Texts.errorIs("cut oak 20;bend 0 0001 1;fit;", 1, 18);
        Texts.errorIs("cut oak 20;bend 0 0 0001;fit;", 1, 20);
        Texts.errorIs("cut oak 20;wet 0001;", 1, 15);
        Texts.errorIs("wet " + "1".repeat(900) + ";", 1, 4);
        Texts.errorIs(GOOD + "1234", 1, 18);
    }

    /** "the first token with which the tokens so far are not the beginning of a plan": each token at each place. */
    private static void everyTokenOfEveryForm() {
        for (String[] form : FORMS) {
            StringBuilder ahead = new StringBuilder();
            for (int i = 0; i < form.length; i++) {
                Texts.errorIs(ahead + "  ", 1, ahead.length() + 2);
                refusesAllBut(i == 0 ? "step" : form[i], ahead.toString());
                ahead.append(example(form[i])).append(' ');
            }
        }
        refusesAllBut("step", "times 2 { ");
        refusesAllBut("step", "times 2 { times 2 { ");
    }

    private static void refusesAllBut(String kind, String ahead) {
        String[] tokens = {"rib", "floor", "oak", "fir", "0", "20", ";", "{", "}", "z", "takes", "1000", "?", "\u00e9", "A"};
        for (String token : tokens) {
            if (!kindOf(token).equals(kind)) {
                Texts.errorIs(ahead + token + " ", 1, ahead.length());
            }
        }
        for (String step : STEPS) {
            if (!kind.equals("step")) {
                Texts.errorIs(ahead + step + " ", 1, ahead.length());
            }
        }
    }

    private static String example(String kind) {
        switch (kind) {
            case "frame": return "rib";
            case "wood": return "oak";
            case "number": return "20";
            default: return kind;
        }
    }

    private static String kindOf(String token) {
        switch (token) {
            case "rib": case "floor": return "frame";
            case "oak": case "fir": return "wood";
            case "0": case "20": return "number";
            default: return token;
        }
    }

    /** "plan = step { step }": one at least, and behind a step a step, inside of times also its end. */
    private static void stepsBehindSteps() {
        for (String token : new String[] {"rib", "oak", "5", ";", "{", "}", "z", "1000", "?"}) {
            Texts.errorIs(GOOD + token, 1, 18);
            Texts.errorIs("times 1{" + GOOD + "}" + token, 1, 27);
            boolean isEnd = token.equals("}");
            Texts.errorIs("times 1{" + GOOD + token, isEnd ? 0 : 1, isEnd ? -1 : 26);
            Texts.errorIs("times 1{times 1{" + GOOD + "}" + token, isEnd ? 0 : 1, isEnd ? -1 : 35);
        }
        Texts.errorIs("times 1{" + GOOD + "}" + GOOD + "times 1{" + GOOD + "}times 1{" + GOOD + "}", 0, -1);
        Texts.errorIs("times 1{times 1{" + GOOD + "}}", 0, -1);
        Texts.errorIs("times 1{times 1{" + GOOD + "}" + GOOD + "}", 0, -1);
        Texts.errorIs("times 1{times 1{}}", 1, 16);
        Texts.errorIs("times 1{" + GOOD + "times 1{}}", 1, 34);
        Texts.errorIs("{}", 1, 0);
    }

    /** "and the end of the tape (at its length)": blanks at the end count. */
    private static void theEndOfTheTape() {
        Texts.errorIs("", 1, 0);
        Texts.errorIs("\n", 1, 1);
        Texts.errorIs(" ".repeat(999), 1, 999);
        Texts.errorIs("take rib", 1, 8);
        Texts.errorIs("take rib \n ", 1, 11);
        Texts.errorIs("times 2{take rib;give rib;", 1, 26);
        Texts.errorIs("times 2{times 2{take rib;give rib;} ", 1, 36);
    }

    /** "Only if there is no error of form, the plan is gone through" */
    private static void formIsLookedAtFirst() {
        Texts.errorIs("give rib; fit", 1, 13);
        Texts.errorIs("times 0{take rib;}}", 1, 18);
        Texts.errorIs("times 0{take rib; ", 1, 18);
        Texts.errorIs("cut oak 9; bend 41 41;", 1, 21);
        Texts.errorIs("times9{times9{times9{times9{fit;}}}};", 1, 36);
        Texts.errorIs("take rib; \u0080", 1, 10);
        Texts.errorIs("times9{".repeat(142) + "fit", 1, 997);
    }

    /** "Error 2 (at the number): of times it is not 1 to 9, of cut not 10 to 200, of wet, heat and hold not 1 to 30" */
    private static void everyNumber() {
        for (int n = 0; n <= 999; n++) {
            number("times ", n, "{take rib;give rib;}", 1, 9);
            number("cut oak ", n, ";bend 0 0 0;fit;", 10, 200);
            number("cut oak 20;wet ", n, ";bend 0 0 0;fit;", 1, 30);
            number("cut oak 20;heat ", n, ";bend 0 0 0;fit;", 1, 30);
            number("take rib;cut oak 20;hold ", n, ";bend 0 0 0;fit;give rib;", 1, 30);
        }
    }

    /** "of bend not 0 to 40": each of the three, and the first one that is wrong is told. */
    private static void everyNumberOfBend() {
        for (int n = 0; n <= 999; n++) {
            number("cut oak 20;bend ", n, " 40 0;fit;", 0, 40);
            number("cut oak 20;bend 40 ", n, " 0;fit;", 0, 40);
            number("cut oak 20;bend 0 40 ", n, ";fit;", 0, 40);
        }
        Texts.errorIs("cut oak 20;bend 41 41 40;fit;", 2, 16);
        Texts.errorIs("cut oak 20;bend 41 40 41;fit;", 2, 16);
        Texts.errorIs("cut oak 20;bend 40 41 41;fit;", 2, 19);
    }

    private static void number(String ahead, int n, String behind, int least, int most) {
        boolean isRight = n >= least && n <= most;
        Texts.errorIs(ahead + n + behind, isRight ? 0 : 2, isRight ? -1 : ahead.length());
    }

    /** "take of a frame that was taken and not given, give of one that was not": of each sort for itself. */
    private static void framesThatAreTakenOrGiven() {
        for (String frame : YardModel.FRAMES) {
            String take = "take " + frame + ";";
            String give = "give " + frame + ";";
            Texts.errorIs(take + give, 0, -1);
            Texts.errorIs(take + give + take + give, 0, -1);
            Texts.errorIs(take + take + give, 3, take.length());
            Texts.errorIs(take + give + give, 3, take.length() * 2);
            Texts.errorIs(give, 3, 0);
            for (String other : YardModel.FRAMES) {
                if (!other.equals(frame)) {
                    Texts.errorIs(take + "take " + other + ";" + give + "give " + other + ";", 0, -1);
                    Texts.errorIs(take + "give " + other + ";", 3, take.length());
                    Texts.errorIs(take + "take " + other + ";" + take, 3, take.length() + other.length() + 6);
                }
            }
        }
    }

    /** "cut with a piece; wet, heat, bend, hold or fit without one", "(A piece is there from cut to fit.)" */
    private static void piecesThatAreThereOrNot() {
        String part = "cut oak 20;bend 1 1 1;fit;";
        for (String action : new String[] {"wet 1;", "heat 1;", "bend 1 1 1;", "hold 1;", "fit;"}) {
            Texts.errorIs("take rib;" + action + part + "give rib;", 3, 9);
            Texts.errorIs("take rib;" + part + action + "give rib;", 3, 9 + part.length());
            Texts.errorIs("take rib;cut oak 20;bend 1 1 1;" + action + (action.equals("fit;") ? "" : "fit;") + "give rib;", 0, -1);
        }
        Texts.errorIs("cut oak 20;cut oak 20;bend 1 1 1;fit;", 3, 11);
        Texts.errorIs("cut oak 20;bend 1 1 1;cut oak 20;fit;", 3, 22);
        Texts.errorIs(part + part, 0, -1);
    }

    /** "hold without any frame": one of any sort is enough, also one that was taken behind the cut. */
    private static void holdNeedsAFrame() {
        for (String frame : YardModel.FRAMES) {
            Texts.errorIs("take " + frame + ";cut oak 20;hold 1;bend 1 1 1;fit;give " + frame + ";", 0, -1);
            Texts.errorIs("cut oak 20;take " + frame + ";hold 1;bend 1 1 1;fit;give " + frame + ";", 0, -1);
            String given = "take " + frame + ";give " + frame + ";cut oak 20;";
            Texts.errorIs(given + "hold 1;bend 1 1 1;fit;", 3, given.length());
        }
        Texts.errorIs("cut oak 20;hold 1;", 3, 11);
        Texts.errorIs("cut oak 20;bend 1 1 1;hold 1;fit;", 3, 22);
        Texts.errorIs("take rib;hold 1;", 3, 9);
    }

    /** "fit of a piece that was not bent": wet, heat and hold are no bend, nor is that of a piece before. */
    private static void fitNeedsABend() {
        Texts.errorIs("cut oak 20;fit;", 3, 11);
        Texts.errorIs("take rib;cut oak 20;wet 1;heat 1;hold 1;fit;give rib;", 3, 40);
        Texts.errorIs("cut oak 20;bend 0 0 0;fit;cut oak 20;wet 1;fit;", 3, 43);
        Texts.errorIs("cut oak 20;bend 0 0 0;wet 1;heat 1;fit;", 0, -1);
        Texts.errorIs("cut oak 20;bend 1 1 1;bend 0 0 0;fit;", 0, -1);
    }

    /** "Error 4: a times in three others (at its word)": the third one in two others is right. */
    private static void timesInOthers() {
        Texts.errorIs("times1{times1{times1{" + GOOD + "}}}", 0, -1);
        Texts.errorIs("times1{times1{times1{times1{" + GOOD + "}}}}", 4, 21);
        Texts.errorIs("times1{times1{times1{" + GOOD + "}times1{" + GOOD + "}}times1{times1{" + GOOD + "}}}", 0, -1);
        Texts.errorIs("times1{times1{times1{" + GOOD + "}times1{" + GOOD + " times1{" + GOOD + "}}}}", 4, 66);
        Texts.errorIs("times1{".repeat(30) + GOOD + "}".repeat(30), 4, 21);
    }

    /** "the 61st action that is done (at its first token)": the 60th is right, however it comes about. */
    private static void sixtyActions() {
        Texts.errorIs(GOOD.repeat(30), 0, -1);
        Texts.errorIs(GOOD.repeat(31), 4, 540);
        Texts.errorIs("take bow;" + GOOD.repeat(29) + "give bow;take bow;", 4, 540);
        Texts.errorIs("times 9{take rib;give rib;}times 6{times 3{" + GOOD + "}}" + "times 3{" + GOOD + "}", 0, -1);
        Texts.errorIs("times 9{take rib;give rib;}times 6{times 3{" + GOOD + "}}" + "times 4{" + GOOD + "}", 4, 71);
        Texts.errorIs("times 9{times 9{times 9{" + GOOD + "}}}", 4, 24);
        // 20 pieces of 3 actions; the 21st is begun in the second round of the last times.
        String part = "cut oak 10;bend 0 0 0;fit;";
        Texts.errorIs("times 9{" + part + "}times 9{" + part + "}times 2{" + part + "}", 0, -1);
        Texts.errorIs("times 9{" + part + "}times 9{" + part + "}times 3{" + part + "}", 4, 78);
        // A times is no action.
        Texts.errorIs(GOOD.repeat(30) + "times 1{" + GOOD + "}", 4, 548);
    }

    /** "Error 3 (at the end of the tape): a piece or a frame is left at the end." */
    private static void whatIsLeftAtTheEnd() {
        Texts.errorIs("cut oak 20;", 3, 11);
        Texts.errorIs("cut oak 20;bend 1 1 1; \n", 3, 24);
        for (String frame : YardModel.FRAMES) {
            Texts.errorIs("take " + frame + ";", 3, frame.length() + 6);
            Texts.errorIs("take " + frame + ";cut oak 20;bend 1 1 1;fit;  ", 3, frame.length() + 34);
        }
        Texts.errorIs("times 1{take rib;}", 3, 18);
        Texts.errorIs("times 1{take rib;}times 1{give rib;}", 0, -1);
    }

    /** "(Of two errors at one token the one that is named first; those at the word .. ahead of those at its numbers.)" */
    private static void twoErrorsAtOneToken() {
        String sixty = GOOD.repeat(30);
        Texts.errorIs(sixty + "give rib;", 3, 540);
        Texts.errorIs(sixty + "fit;", 3, 540);
        Texts.errorIs(sixty + "wet 0;", 3, 540);
        Texts.errorIs(sixty + "cut oak 9;", 4, 540);
        Texts.errorIs("take bow;" + GOOD.repeat(29) + "give bow;take bow;take bow;", 4, 540);
        Texts.errorIs("times 0{" + "times 0{times 0{times 0{" + GOOD + "}}}}", 2, 6);
        Texts.errorIs("times 1{times 1{times 1{times 0{" + GOOD + "}}}}", 4, 24);
        Texts.errorIs("wet 0;", 3, 0);
        Texts.errorIs("heat 31;", 3, 0);
        Texts.errorIs("bend 41 41 41;", 3, 0);
        Texts.errorIs("hold 31;", 3, 0);
        Texts.errorIs("cut oak 20;hold 31;", 3, 11);
        Texts.errorIs("cut oak 20;cut oak 201;", 3, 11);
    }

    /** "the plan is gone through as it is done .. the first error is told" */
    private static void theFirstErrorAsItIsDone() {
        Texts.errorIs("cut oak 9;fit;", 2, 8);
        Texts.errorIs("fit;cut oak 9;", 3, 0);
        Texts.errorIs("times 2{take rib;}cut oak 9;", 3, 8);
        Texts.errorIs("times 1{take rib;}cut oak 9;", 2, 26);
        Texts.errorIs("times 2{cut oak 20;bend 1 1 1;}wet 31;", 3, 8);
        // The first round is right, the second one is not.
        Texts.errorIs("take rib;times 2{give rib;times 2{take bow;give bow;}}", 3, 17);
        Texts.errorIs("times 9{times 9{" + GOOD + "}}fit;", 4, 16);
    }

    /** "The frames are numbered from 0, the woods, too." */
    private static void framesAndWoodsFromZero() {
        for (int i = 0; i < 5; i++) {
            String frame = YardModel.FRAMES.get(i);
            BendYard x = Yards.withSlips(1, "take " + frame + ";give " + frame + ";");
            x.start(0, 0, 0);
            x.run(1);
            Check.same("sort of " + frame, i, x.slip(0, 9));
        }
        for (int i = 0; i < 4; i++) {
            BendYard x = Yards.withSlips(1, "cut " + YardModel.WOODS.get(i) + " 20;bend 0 0 0;fit;");
            for (int wood = 0; wood < 4; wood++) {
                x.addPlank(wood, 20, 50 + wood);
            }
            x.start(0, 0, 0);
            x.run(1);
            Check.same("wood of " + YardModel.WOODS.get(i), 50 + i, x.slip(0, 6));
        }
    }

    /** "There are 6 plans, 0 to 5, at first none of them told.", "if plan is not 0 to 5, or what is not 0 to 3" */
    private static void sixPlans() {
        BendYard x = new BendYard();
        for (int plan = 0; plan < 6; plan++) {
            Check.same("plan " + plan, 0, Texts.compile(x, plan, GOOD.repeat(plan + 1)));
            for (int other = 0; other < 6; other++) {
                Check.same("actions of plan " + other, other <= plan ? 2 * other + 2 : 0, x.plan(other, 0));
            }
        }
        for (int wrong : new int[] {Integer.MIN_VALUE, -1, 6, Integer.MAX_VALUE}) {
            Check.refuses(x, "compile(" + wrong + ")", Texts.BOUNDS, () -> x.compile(wrong));
            Check.refuses(x, "plan(" + wrong + ", 0)", Texts.BOUNDS, () -> x.plan(wrong, 0));
        }
        for (int wrong : new int[] {Integer.MIN_VALUE, -1, 4, Integer.MAX_VALUE}) {
            Check.refuses(x, "plan(5, " + wrong + ")", Texts.BOUNDS, () -> x.plan(5, wrong));
        }
    }

    /** "which takes the place of what was there, if it has no error": all four facts stay behind each error. */
    private static void whatAnErrorLeaves() {
        BendYard x = new BendYard();
        Texts.compile(x, 0, "cut oak 20;wet 3;bend 0 0 0;fit;");
        String[] texts = {"take", "cut fir 9;", GOOD + "take rib;", "take rib;give rib;give rib;", GOOD.repeat(31),
            "cut fir 30;bend 1 1 1;fit;cut fir 30;"};
        int[] errors = {1, 2, 3, 3, 4, 3};
        for (int i = 0; i < texts.length; i++) {
            Check.same("error of '" + texts[i] + "'", errors[i], Texts.compile(x, 0, texts[i]));
            Yards.planIs(x, 0, 4, 1, 20, 6);
            Check.same("error in place of nothing", errors[i], Texts.compile(x, 1, texts[i]));
            Yards.planIs(x, 1, 0, 0, 0, 0);
        }
        Check.same("plan that takes the place", 0, Texts.compile(x, 0, GOOD));
        Yards.planIs(x, 0, 2, 0, 0, 2);
    }

    /** "the position of the error of the latest compile; -1 if it had none, or there was none" */
    private static void errorAtOfTheLatestCompile() {
        BendYard x = new BendYard();
        Check.same("none yet", -1, x.errorAt());
        x.feed(0, 0, 0, 0, 0);
        Check.same("none behind feed", -1, x.errorAt());
        Check.refuses(x, "compile(-1)", Texts.BOUNDS, () -> x.compile(-1));
        Check.same("none behind a refused compile", -1, x.errorAt());
        x.compile(5);
        Check.same("at the first byte", 0, x.errorAt());
        Texts.compile(x, 4, GOOD + "fit;");
        Check.same("of another plan", 18, x.errorAt());
        x.run(1);
        Texts.write(x, GOOD);
        Check.same("till the next compile", 18, x.errorAt());
        x.compile(3);
        Check.same("none in the latest", -1, x.errorAt());
    }

    /** The facts of plans of 60 actions: "1 for each take, give, cut, bend and fit, the numbers of wet, heat and hold" */
    private static void greatestFacts() {
        BendYard x = new BendYard();
        String part = "cut fir 200;bend 0 0 0;fit;";
        Texts.compile(x, 0, "times 4{times 5{" + part + "}}");
        Yards.planIs(x, 0, 60, 20, 4000, 60);
        Texts.compile(x, 1, "take rib;cut fir 10;times 9{times 3{wet 30;hold 30;}}heat 30;bend 0 0 0;fit;give rib;");
        Yards.planIs(x, 1, 60, 1, 10, 5 + 55 * 30);
        Texts.compile(x, 2, "times 5{times 6{" + GOOD + "}}");
        Yards.planIs(x, 2, 60, 0, 0, 60);
        Texts.compile(x, 3, "cut fir 10;bend 0 0 0;fit;");
        Yards.planIs(x, 3, 3, 1, 10, 3);
    }

    /** A plan of 60 actions is done to its last one. */
    private static void sixtyActionsAreDone() {
        BendYard x = Yards.withSlips(1, "times 5{times 6{" + GOOD + "}}");
        x.addFrame(2);
        x.start(0, 0, 0);
        Check.same("foreseen", 90, x.foresee(200, 3));
        Check.same("not finished", 0, x.run(89));
        Check.same("actions", 59, x.slip(0, 2));
        Check.same("finished", 1, x.run(1));
        Check.same("actions", 60, x.slip(0, 2));
    }

    /** Wet, heat and hold are done behind 30 ticks, if their number is 30. */
    private static void thirtyTicksAreDone() {
        for (String word : new String[] {"wet", "hold", "heat"}) {
            for (int number : new int[] {1, 29, 30}) {
                String treatment = word.equals("heat") ? "wet 30;heat " + number : word + " " + number;
                BendYard x = Yards.building("take rib;cut fir 20;" + treatment + ";bend 0 0 0;fit;give rib;", 3, 20, 100, 0);
                x.addFrame(2);
                x.run(word.equals("heat") ? 33 : 3);
                int actions = x.slip(0, 2);
                for (int i = 1; i <= number; i++) {
                    x.run(1);
                    Check.same(treatment + " behind " + i, i == number ? actions + 1 : actions, x.slip(0, 2));
                }
                Check.same("nothing burnt", 0, x.count(6));
            }
        }
    }
}
