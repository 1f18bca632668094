/** Promises 1 to 6: a new object, feed, trim, compile, errorAt, plan. */
public final class PlanTest {
    private static final String TWO_BY_THIRTY = "times 6 { times 5 { take rib; give rib; } } ";

    public static void main(String[] args) {
        newObject();
        feed();
        feedByteByByte();
        trim();
        errorsOfForm();
        errorsOfMeaning();
        errorsInTheirOrder();
        limitsOfNumbers();
        limitOfActions();
        loops();
        compileEmptiesTheTape();
        compileKeepsOrReplaces();
        otherCallsLeaveTheTape();
        compileBeginsAnew();
        wrongPlans();
        planFacts();
        framesAmongTheActionsOfAPiece();
        Check.end("PlanTest");
    }

    private static void newObject() {
        BendYard x = new BendYard();
        for (int what = 0; what <= 8; what++) {
            Check.same("new count " + what, 0, x.count(what));
        }
        for (int plan = 0; plan <= 5; plan++) {
            for (int what = 0; what <= 3; what++) {
                Check.same("new plan " + plan + " " + what, 0, x.plan(plan, what));
            }
        }
        for (int sort = 0; sort <= 4; sort++) {
            for (int what = 0; what <= 2; what++) {
                Check.same("new frames " + sort + " " + what, 0, x.frames(sort, what));
            }
        }
        Check.same("new errorAt", -1, x.errorAt());
        Check.same("new stuck", 0, x.stuck());
        Check.sameDouble("new flaw", 0.0, x.flaw());
        Check.same("new trim", 0, x.trim(0));
        Check.same("new find", -1, x.find(0, 10, false));
        Check.refuses(x, "hull of a new yard", Texts.BOUNDS, () -> x.hull(0, 0));
        Check.refuses(x, "slip of a new yard", Texts.BOUNDS, () -> x.slip(0, 0));
        Check.refuses(x, "plank of a new yard", Texts.BOUNDS, () -> x.plank(0, 0));
    }

    private static void feed() {
        BendYard x = new BendYard();
        for (int i = 1; i <= 50; i++) {
            Check.same("feed " + i, 20 * i, x.feed(-1, 0, 1, Integer.MIN_VALUE, Integer.MAX_VALUE));
        }
        Check.refuses(x, "feed beyond 1000", Texts.STATE, () -> x.feed(0, 0, 0, 0, 0));
        Check.same("trim behind a refused feed", 1000, x.trim(1000));
        x.trim(981);
        Check.refuses(x, "feed to 1001", Texts.STATE, () -> x.feed(0, 0, 0, 0, 0));
        x.trim(980);
        Check.same("feed to 1000", 1000, x.feed(0, 0, 0, 0, 0));
    }

    private static void feedByteByByte() {
        String good = "take rib;give rib;  ";
        for (int place = 0; place < 18; place++) {
            for (int bad : new int[] {0, 1, 9, 13, 31, 33, 47, 58, 96, 122, 124, 127, 128, 160, 187, 255}) {
                BendYard x = new BendYard();
                String text = good.substring(0, place) + (char) bad + good.substring(place + 1);
                x.feed(Texts.four(text, 0), Texts.four(text, 4), Texts.four(text, 8), Texts.four(text, 12),
                        Texts.four(text, 16));
                Check.same("byte " + bad + " at " + place, 1, x.compile(0));
            }
        }
    }

    private static void trim() {
        BendYard x = new BendYard();
        Check.refuses(x, "trim(1) of nothing", Texts.ARGUMENT, () -> x.trim(1));
        Check.refuses(x, "trim(-1)", Texts.ARGUMENT, () -> x.trim(-1));
        x.feed(0, 0, 0, 0, 0);
        Check.refuses(x, "trim(21)", Texts.ARGUMENT, () -> x.trim(21));
        Check.same("trim(20)", 20, x.trim(20));
        Check.same("trim(7)", 7, x.trim(7));
        Check.refuses(x, "trim(8) of 7", Texts.ARGUMENT, () -> x.trim(8));
        Check.same("feed behind 7", 27, x.feed(0, 0, 0, 0, 0));
        Check.same("trim(0)", 0, x.trim(0));
        Check.same("feed behind 0", 20, x.feed(0, 0, 0, 0, 0));
    }

    private static void errorsOfForm() {
        Texts.errorIs("", 1, 0);
        Texts.errorIs(" \n ", 1, 3);
        Texts.errorIs("take", 1, 4);
        Texts.errorIs("take ", 1, 5);
        Texts.errorIs("take bow", 1, 8);
        Texts.errorIs("takebow;", 1, 0);
        Texts.errorIs("\ttake bow;", 1, 0);
        Texts.errorIs("take bow;\rgive bow;", 1, 9);
        Texts.errorIs("take bow; give bow; \u00ff", 1, 20);
        Texts.errorIs("take bow; give bow; Take", 1, 20);
        Texts.errorIs("take bow; give bow; taketakes", 1, 20);
        Texts.errorIs("take bow; give bow; 5", 1, 20);
        Texts.errorIs("take bow; give bow; oak", 1, 20);
        Texts.errorIs("aaaaaaaaa", 1, 0);
        Texts.errorIs("tak bow;", 1, 0);
        Texts.errorIs("takes bow;", 1, 0);
        Texts.errorIs("takez bow;", 1, 0);
        Texts.errorIs("take bo;", 1, 5);
        Texts.errorIs("take bows;", 1, 5);
        Texts.errorIs("take oak;", 1, 5);
        Texts.errorIs("take take;", 1, 5);
        Texts.errorIs("take 1;", 1, 5);
        Texts.errorIs("cut rib 20;", 1, 4);
        Texts.errorIs("cut 20;", 1, 4);
        Texts.errorIs("cut oak;", 1, 7);
        Texts.errorIs("cut oak 1000;", 1, 8);
        Texts.errorIs("cut oak 0020;", 1, 8);
        Texts.errorIs("cut oak 20 20;", 1, 11);
        Texts.errorIs("cut oak 20", 1, 10);
        Texts.errorIs("fit", 1, 3);
        Texts.errorIs("fit fit;", 1, 4);
        Texts.errorIs("fit 1;", 1, 4);
        Texts.errorIs("bend 1 2;", 1, 8);
        Texts.errorIs("bend 1 23;", 1, 9);
        Texts.errorIs("bend 1 2 3 4;", 1, 11);
        Texts.errorIs("bend 1 aaaaaaaaa 3;", 1, 7);
        Texts.errorIs("bend 1 aaaaaaaa 3;", 1, 7);
        Texts.errorIs("bend 1 2345 3;", 1, 7);
        Texts.errorIs("wet;", 1, 3);
        Texts.errorIs("wet 1 2;", 1, 6);
        Texts.errorIs("heat fit;", 1, 5);
        Texts.errorIs("hold ;", 1, 5);
        Texts.errorIs("times 2 { }", 1, 10);
        Texts.errorIs("times 2 { take rib; ", 1, 20);
        Texts.errorIs("times { take rib; }", 1, 6);
        Texts.errorIs("times 2 take rib;", 1, 8);
        Texts.errorIs("times 2; { fit; }", 1, 7);
        Texts.errorIs("} ", 1, 0);
        Texts.errorIs("{ fit; }", 1, 0);
        Texts.errorIs(";", 1, 0);
        Texts.errorIs("take rib; }", 1, 10);
        Texts.errorIs("take rib;;", 1, 9);
        Texts.errorIs("times 2 { take rib; give rib; };", 1, 31);
        Texts.errorIs("times 2 { take rib; give rib; } }", 1, 32);
        Texts.errorIs("times 2 { times 2 { fit; } fit;", 1, 31);
        Texts.errorIs("give bow; x", 1, 10);
        Texts.errorIs("cut oak 9; x", 1, 11);
        Texts.errorIs("times1{times1{times1{times1{times1{fit;}}}}", 1, 43);
    }

    private static void errorsOfMeaning() {
        Texts.errorIs("take bow;give bow;", 0, -1);
        Texts.errorIs(" \n\ntake\nbow ; give  bow;\n", 0, -1);
        Texts.errorIs("take bow; ", 3, 10);
        Texts.errorIs("take bow; give stern;", 3, 10);
        Texts.errorIs("take bow; take bow;", 3, 10);
        Texts.errorIs("take bow; give bow; give bow;", 3, 20);
        Texts.errorIs("take bow; give bow; take bow; give bow;", 0, -1);
        Texts.errorIs("take floor; take side; give floor; give side;", 0, -1);
        Texts.errorIs("take floor; take side; give floor; give rib;", 3, 35);
        Texts.errorIs("cut oak20;", 3, 10);
        Texts.errorIs("cut oak 020;", 3, 12);
        Texts.errorIs("cut oak 20; cut oak 20;", 3, 12);
        Texts.errorIs("wet 1;", 3, 0);
        Texts.errorIs("heat 1;", 3, 0);
        Texts.errorIs("bend 1 1 1;", 3, 0);
        Texts.errorIs("hold 1;", 3, 0);
        Texts.errorIs("take rib; hold 1; give rib;", 3, 10);
        Texts.errorIs("fit;", 3, 0);
        Texts.errorIs("cut oak 20; fit;", 3, 12);
        Texts.errorIs("cut oak 20; bend 0 0 0; fit; fit;", 3, 29);
        Texts.errorIs("cut oak 20; bend 0 0 0; fit; wet 1;", 3, 29);
        Texts.errorIs("cut oak 20; bend 0 0 0; fit;", 0, -1);
        Texts.errorIs("cut oak 20; bend 0 0 0; fit; cut fir 20; fit;", 3, 41);
        Texts.errorIs("cut oak 20; hold 1; bend 0 0 0; fit;", 3, 12);
        Texts.errorIs("take rib; cut oak 20; hold 1; bend 0 0 0; fit; give rib;", 0, -1);
        Texts.errorIs("take rib; cut oak 20; give rib; hold 1; bend 0 0 0; fit;", 3, 32);
        Texts.errorIs("take rib; take bow; cut oak 20; give rib; hold 1; bend 0 0 0; fit; give bow;", 0, -1);
        Texts.errorIs("take rib; cut oak 20; bend 0 0 0; fit;", 3, 38);
        Texts.errorIs("times 2 { take rib; }", 3, 10);
        Texts.errorIs("times 1 { take rib; } give rib;", 0, -1);
        Texts.errorIs("cut larch 10; bend 0 0 0; fit; cut elm 10; bend 0 0 0; fit; cut fir 10; bend 0 0 0; fit;", 0, -1);
    }

    private static void errorsInTheirOrder() {
        Texts.errorIs("wet 31;", 3, 0);
        Texts.errorIs("cut oak 20; cut oak 9;", 3, 12);
        Texts.errorIs("cut oak 9; cut oak 20;", 2, 8);
        Texts.errorIs("times 2 { cut oak 20; bend 1 1 1; } cut oak 9;", 3, 10);
        Texts.errorIs("times 10 { give rib; }", 2, 6);
        Texts.errorIs("give rib; times 10 { give rib; }", 3, 0);
        Texts.errorIs("take rib; times 10 { give rib; }", 2, 16);
        Texts.errorIs("cut oak 20; bend 41 41 41;", 2, 17);
        Texts.errorIs("times1{times1{times1{times0{take rib;give rib;}}}}", 4, 21);
        Texts.errorIs("times1{times1{times1{give rib;times0{take rib;}}}}", 3, 21);
        Texts.errorIs("times1{times1{times0{times1{take rib;give rib;}}}}", 2, 19);
        Texts.errorIs("times1{times1{times1{take rib;times 1{give rib;}}}}", 4, 30);
    }

    private static void limitsOfNumbers() {
        Texts.errorIs("times 0 { take rib; give rib; }", 2, 6);
        Texts.errorIs("times 1 { take rib; give rib; }", 0, -1);
        Texts.errorIs("times 9 { take rib; give rib; }", 0, -1);
        Texts.errorIs("times 10 { take rib; give rib; }", 2, 6);
        Texts.errorIs("cut oak 9; bend 0 0 0; fit;", 2, 8);
        Texts.errorIs("cut oak 10; bend 0 0 0; fit;", 0, -1);
        Texts.errorIs("cut oak 200; bend 0 0 0; fit;", 0, -1);
        Texts.errorIs("cut oak 201; bend 0 0 0; fit;", 2, 8);
        for (String word : new String[] {"wet ", "heat", "hold"}) {
            String ahead = "take rib; cut oak 10; " + word + " ";
            String behind = "; bend 0 0 0; fit; give rib;";
            Texts.errorIs(ahead + "0" + behind, 2, 27);
            Texts.errorIs(ahead + "1" + behind, 0, -1);
            Texts.errorIs(ahead + "30" + behind, 0, -1);
            Texts.errorIs(ahead + "31" + behind, 2, 27);
        }
        Texts.errorIs("cut oak 10; bend 0 40 0; fit;", 0, -1);
        Texts.errorIs("cut oak 10; bend 41 0 0; fit;", 2, 17);
        Texts.errorIs("cut oak 10; bend 0 41 0; fit;", 2, 19);
        Texts.errorIs("cut oak 10; bend 0 0 41; fit;", 2, 21);
        Texts.errorIs("cut oak 10; bend 999 0 0; fit;", 2, 17);
    }

    private static void limitOfActions() {
        Texts.errorIs(TWO_BY_THIRTY, 0, -1);
        Texts.errorIs(TWO_BY_THIRTY + "take rib; give rib;", 4, TWO_BY_THIRTY.length());
        Texts.errorIs(TWO_BY_THIRTY + "give rib;", 3, TWO_BY_THIRTY.length());
        Texts.errorIs(TWO_BY_THIRTY + "cut oak 9;", 4, TWO_BY_THIRTY.length());
        Texts.errorIs(TWO_BY_THIRTY + "times 0 { take rib; }", 2, TWO_BY_THIRTY.length() + 6);
        Texts.errorIs(TWO_BY_THIRTY + "times 1 { take rib; }", 4, TWO_BY_THIRTY.length() + 10);
        Texts.errorIs("times 9 { times 9 { times 9 { take rib; give rib; } } }", 4, 30);
        Texts.errorIs("take bow;" + "take rib;give rib;".repeat(29) + "give bow;", 0, -1);
        Texts.errorIs("take bow;" + "take rib;give rib;".repeat(29) + "take rib;give rib;", 4, 9 + 29 * 18 + 9);
        Texts.errorIs("take rib;" + " ".repeat(991), 3, 1000);
        Texts.errorIs(" ".repeat(982) + "take rib;give rib;", 0, -1);
        Texts.errorIs(" ".repeat(1000), 1, 1000);
    }

    private static void loops() {
        Texts.errorIs("times 2 { times 2 { times 2 { take rib; give rib; } } } times 2 { take rib; give rib; }", 0, -1);
        Texts.errorIs("times1{times1{take rib;}times1{give rib;}}times1{times1{times1{take bow;give bow;}}}", 0, -1);
        BendYard x = new BendYard();
        Texts.compile(x, 2, "times 2 { take rib; times 3 { take bow; give bow; } give rib; }");
        Check.same("actions of loops", 16, x.plan(2, 0));
        Texts.compile(x, 2, "times 2 { times 2 { times 2 { take rib; give rib; } take bow; give bow; } }");
        Check.same("actions of three loops", 24, x.plan(2, 0));
    }

    private static void compileEmptiesTheTape() {
        BendYard x = new BendYard();
        Texts.compile(x, 0, "take rib; give rib;");
        Check.same("feed behind a good compile", 20, x.feed(0, 0, 0, 0, 0));
        x.compile(0);
        Check.same("feed behind a bad compile", 20, x.feed(0, 0, 0, 0, 0));
        Check.refuses(x, "compile(6)", Texts.BOUNDS, () -> x.compile(6));
        Check.same("feed behind a refused compile", 40, x.feed(0, 0, 0, 0, 0));
    }

    private static void compileKeepsOrReplaces() {
        BendYard x = new BendYard();
        Texts.compile(x, 3, "take rib; give rib;");
        Check.same("plan that was told", 2, x.plan(3, 0));
        Check.same("bad plan", 3, Texts.compile(x, 3, "take rib; take bow; give rib; take rib;"));
        Check.same("errorAt of the bad plan", 39, x.errorAt());
        Check.same("plan behind a bad one", 2, x.plan(3, 0));
        Check.same("other plan", 0, x.plan(4, 0));
        Check.same("good plan", 0, Texts.compile(x, 3, "take rib; take bow; give rib; give bow;"));
        Check.same("errorAt of the good plan", -1, x.errorAt());
        Check.same("plan behind a good one", 4, x.plan(3, 0));
        Check.same("plan 0", 0, Texts.compile(x, 0, "take rib; give rib;"));
        Check.same("plan 5", 0, Texts.compile(x, 5, "take rib; give rib; take rib; give rib;"));
        Check.same("actions of plan 0", 2, x.plan(0, 0));
        Check.same("actions of plan 5", 4, x.plan(5, 0));
    }

    /** "which feed and trim fill; compile reads it": no other call changes the tape, or the error of the latest compile. */
    private static void otherCallsLeaveTheTape() {
        BendYard x = new BendYard();
        Texts.compile(x, 0, "take rib; give rib;");
        Texts.compile(x, 1, "take rib; take");
        Texts.write(x, "take bow; give bow;");
        x.addSlip();
        x.addSlip();
        x.addPlank(0, 50, 50);
        x.addKnot(0, 20);
        x.addFrame(2);
        x.start(0, 0, 0);
        x.start(1, 0, 0);
        x.run(2);
        x.lend(0, 1, 2);
        x.run(1);
        x.foresee(10, 0);
        x.plan(0, 0);
        x.plank(0, 0);
        x.find(0, 10, true);
        x.frames(2, 0);
        x.slip(0, 0);
        x.bend(0, 0, true);
        x.stuck();
        x.count(0);
        x.flaw();
        x.digest();
        x.run(10);
        x.hull(0, 0);
        Check.same("errorAt behind all other calls", 14, x.errorAt());
        Check.refuses(x, "trim behind all other calls", Texts.ARGUMENT, () -> x.trim(20));
        Check.same("trim behind all other calls", 19, x.trim(19));
        Check.same("compile behind all other calls", 0, x.compile(1));
        Yards.planIs(x, 1, 2, 0, 0, 2);
    }

    /** Nothing that an earlier text left open counts for the next one. */
    private static void compileBeginsAnew() {
        BendYard x = new BendYard();
        Check.same("loops that are open", 3, Texts.compile(x, 0, "times 2{times 2{times 2{give rib;}}}"));
        Check.same("loops anew", 0, Texts.compile(x, 0, "times 2{times 2{times 2{take rib; give rib;}}}"));
        Check.same("piece that is left", 3, Texts.compile(x, 0, "cut oak 20; bend 1 1 1;"));
        Check.same("no piece anew", 0, Texts.compile(x, 0, "cut oak 20; bend 1 1 1; fit;"));
        Check.same("bent piece that is left", 3, Texts.compile(x, 0, "cut oak 20; bend 1 1 1;"));
        Check.same("piece that is not bent", 3, Texts.compile(x, 0, "cut oak 20; fit;"));
        Check.same("frame that is left", 3, Texts.compile(x, 0, "take bow;"));
        Check.same("no frame anew", 0, Texts.compile(x, 0, "take bow; give bow;"));
        Check.same("no text", 1, Texts.compile(x, 0, ""));
        Check.same("errorAt of no text", 0, x.errorAt());
    }

    private static void wrongPlans() {
        BendYard x = new BendYard();
        Check.refuses(x, "compile(-1)", Texts.BOUNDS, () -> x.compile(-1));
        Check.refuses(x, "compile(6)", Texts.BOUNDS, () -> x.compile(6));
        Check.refuses(x, "plan(-1, 0)", Texts.BOUNDS, () -> x.plan(-1, 0));
        Check.refuses(x, "plan(6, 0)", Texts.BOUNDS, () -> x.plan(6, 0));
        Check.refuses(x, "plan(0, -1)", Texts.BOUNDS, () -> x.plan(0, -1));
        Check.refuses(x, "plan(0, 4)", Texts.BOUNDS, () -> x.plan(0, 4));
        Texts.compile(x, 0, "take");
        Check.refuses(x, "compile(6) behind an error", Texts.BOUNDS, () -> x.compile(6));
        Check.same("errorAt behind a refused compile", 4, x.errorAt());
    }

    private static void planFacts() {
        BendYard x = new BendYard();
        Texts.compile(x, 1, "take rib; cut oak 30; wet 5; heat 6; bend 10 12 10; hold 8; fit; give rib;");
        Yards.planIs(x, 1, 8, 1, 30, 24);
        Texts.compile(x, 1, "times 3 { cut elm 15; wet 2; bend 1 2 3; bend 0 0 0; fit; } cut fir 200; bend 1 1 1; fit;");
        Yards.planIs(x, 1, 18, 4, 245, 21);
    }

    /** Frames are taken and given between any two actions of a piece. */
    private static void framesAmongTheActionsOfAPiece() {
        String[] actions = {"cut oak 20;", "wet 1;", "heat 1;", "bend 1 1 1;", "wet 1;", "bend 2 2 2;", "fit;"};
        for (int taken = 0; taken <= actions.length; taken++) {
            for (int given = taken; given <= actions.length; given++) {
                StringBuilder text = new StringBuilder();
                for (int i = 0; i <= actions.length; i++) {
                    text.append(i == taken ? "take rib;" : "").append(i == given ? "give rib;" : "");
                    text.append(i < actions.length ? actions[i] : "");
                }
                Texts.errorIs(text.toString(), 0, -1);
            }
        }
    }
}
