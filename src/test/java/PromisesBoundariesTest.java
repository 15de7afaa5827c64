/** The sentences of promises 1 to 29 that name a boundary, each with a test of its own. */
public final class PromisesBoundariesTest {
    private static final int NO_SUCH = MarbleHeirs.NO_SUCH;
    private static final int BAD_VALUE = MarbleHeirs.BAD_VALUE;
    private static final int NOT_POSSIBLE = MarbleHeirs.NOT_POSSIBLE;
    private static final int LIMIT = MarbleHeirs.LIMIT;
    private static final int BAD_TEXT = MarbleHeirs.BAD_TEXT;
    private static final int NONE = MarbleHeirs.NONE;
    private static final String FORTY = "write 9r19g19b19y14w1; pour; ";
    private static final String SIX =
            "come 0 0; come 1 1; come 2 2; come 3 3; come 0 4; come 1 5; ";
    private static final String THREE = "come 0 0; come 1 1; come 2 2; ";

    private static final Check check = new Check("PromisesBoundariesTest");

    public static void main(String[] args) {
        newObject();
        come();
        leave();
        wish();
        settings();
        grant();
        drop();
        round();
        divide();
        swap();
        settle();
        settleUntilThereIsNone();
        settleOfAFullMachine();
        heir();
        bag();
        hopper();
        vetoes();
        at();
        total();
        totalOfDifferences();
        ifDivided();
        fairestRule();
        whoVetoes();
        bestSwapGrowth();
        bestSwapOfSeveral();
        bestSwapThatIsVetoed();
        append();
        clearText();
        errorPosition();
        pour();
        undo();
        save();
        restore();
        check.end();
    }

    /** Behind so many calls, this one answers so; the calls are told as texts. */
    private static void due(String ahead, String call, int answer) {
        check.due(call + " behind \"" + ahead + "\"", Calls.tell(Calls.machine(ahead), call),
                answer);
    }

    private static void newObject() {
        check.topic("promise 1: a machine without heirs and marbles");
        check.holds("all is empty, and each mother has 2 vetoes",
                Calls.readings(new MarbleHeirs()).equals("0 0 0 0 0 0 0 0 0 0 0 0 2 2 2 2 2 "));
        due("", "at 0", NO_SUCH);
        due("", "heir 0 0", NO_SUCH);
        due("", "hopper 0 0", NO_SUCH);
        due("", "clearText", 0);
        due("", "undo", NOT_POSSIBLE);
        due("", "restore", NOT_POSSIBLE);
    }

    private static void come() {
        check.topic("promise 2");
        due("", "come -1 0", NO_SUCH);
        due("", "come 0 0", 0);
        due("", "come 3 0", 0);
        due("", "come 4 0", NO_SUCH);
        due("", "come 0 -1", BAD_VALUE);
        due("", "come 0 5", 0);
        due("", "come 0 6", BAD_VALUE);
        due("", "come 4 6", NO_SUCH);
        due(SIX, "come 4 6", NO_SUCH);
        due(SIX, "come 0 6", BAD_VALUE);
        due(SIX, "come 0 0", LIMIT);
        due(SIX + "leave 5", "come 0 0", 5);
        due(SIX + "leave 0", "come 0 0", 5);
        due(SIX + "undo", "come 0 0", 5);
        due("come 0 0; come 0 0; come 0 0; come 0 0; come 0 0", "come 0 0", 5);
    }

    private static void leave() {
        check.topic("promise 3");
        due("", "leave 0", NO_SUCH);
        due(THREE, "leave -1", NO_SUCH);
        due(THREE, "leave 3", NO_SUCH);
        due(THREE, "leave 2", 0);
        due(SIX, "leave 5", 0);
        due(SIX, "leave 6", NO_SUCH);
        due("come 0 0; leave 0", "leave 0", NO_SUCH);
        String one = "come 0 0; drop 0 1; round; write 9r19g19b19y1; pour; ";
        due(one + "write 2w1; pour", "leave 0", 1);
        due(one + "write 3w1; pour", "leave 0", 1);
        due(one + "write 3w1; pour", "leave 1", NO_SUCH);
        due(one + "write 4w1; pour", "leave 0", LIMIT);
        due(one + "write 4w1; pour", "leave 1", NO_SUCH);
        due(one + "write 4w1; pour; come 0 0", "leave 1", 0);
        // The marbles go to the end of the hopper, in their order, and the heir takes none along.
        MarbleHeirs x = Calls.machine(THREE + "write r1g2b3y4w5k6r7; pour; divide; drop 0 9");
        check.due("leave(0)", x.leave(0), 2);
        check.hopper(x, "r9r1k6");
        check.due("total(0)", x.total(0), 2);
        check.due("total(2)", x.total(2), 5);
        check.due("total(5)", x.total(5), 3);
        // All leave; the vetoes and the settings stay.
        x = Calls.machine(THREE + "grant 0 7; setRule 2; setPatience 6; leave 0; leave 0; leave 0");
        check.due("total(0)", x.total(0), 0);
        check.due("vetoes(0)", x.vetoes(0), 7);
        check.due("total(11)", x.total(11), 2);
        check.due("total(12)", x.total(12), 6);
    }

    private static void wish() {
        check.topic("promise 4");
        due("", "wish 0 0", NO_SUCH);
        due(THREE, "wish -1 0", NO_SUCH);
        due(THREE, "wish 3 0", NO_SUCH);
        due(THREE, "wish 3 6", NO_SUCH);
        due(THREE, "wish 2 -1", BAD_VALUE);
        due(THREE, "wish 2 0", 0);
        due(THREE, "wish 2 5", 0);
        due(THREE, "wish 2 6", BAD_VALUE);
        due("come 0 0; write k1r1k2; pour; divide", "wish 0 5", 2);
        due("come 0 0; write k1r1k2; pour; divide", "wish 0 0", 1);
        due("come 0 0; write k1r1k2; pour; divide", "wish 0 4", 0);
        due("come 0 0; " + FORTY + "divide", "wish 0 1", 9);
        // Marbles of the hopper and of other bags do not count.
        due("come 0 0; come 0 0; write r1g1g1; pour; round", "wish 0 1", 0);
    }

    private static void settings() {
        check.topic("promises 5 and 6");
        due("", "setRule -1", BAD_VALUE);
        due("", "setRule 3", BAD_VALUE);
        for (int rule = 0; rule <= 2; rule++) {
            due("", "setRule " + rule, 0);
            due("setRule " + rule, "total 11", rule);
            due("setRule " + rule, "setRule 1", rule);
            due("setRule " + rule + "; setRule 3; setRule -1", "total 11", rule);
        }
        due("", "setPatience -1", BAD_VALUE);
        due("", "setPatience 9", BAD_VALUE);
        for (int patience = 0; patience <= 8; patience++) {
            due("", "setPatience " + patience, 2);
            due("setPatience " + patience, "total 12", patience);
            due("setPatience " + patience, "setPatience 0", patience);
            due("setPatience " + patience + "; setPatience 9; setPatience -1", "total 12",
                    patience);
        }
    }

    private static void grant() {
        check.topic("promise 7");
        due("", "grant -1 0", NO_SUCH);
        due("", "grant 4 0", NO_SUCH);
        due("", "grant 4 10", NO_SUCH);
        due("", "grant 0 -1", BAD_VALUE);
        due("", "grant 3 10", BAD_VALUE);
        for (int mother = 0; mother <= 3; mother++) {
            for (int vetoes = 0; vetoes <= 9; vetoes++) {
                String granted = "grant " + mother + " " + vetoes;
                due("", granted, 2);
                due(granted, "vetoes " + mother, vetoes);
                due(granted, "grant " + mother + " 1", vetoes);
                due(granted, "vetoes " + (mother + 1) % 4, 2);
            }
        }
    }

    private static void drop() {
        check.topic("promise 8");
        due("", "drop -1 1", BAD_VALUE);
        due("", "drop 0 1", 1);
        due("", "drop 5 1", 1);
        due("", "drop 6 1", BAD_VALUE);
        due("", "drop 0 0", BAD_VALUE);
        due("", "drop 0 9", 1);
        due("", "drop 0 10", BAD_VALUE);
        due(FORTY, "drop 0 1", LIMIT);
        due(FORTY, "drop 0 10", BAD_VALUE);
        due("write 9r19g19b19y13w1; pour", "drop 0 1", 40);
        String all = "come 0 0; " + (FORTY + "divide; ").repeat(2);
        due(all + FORTY + "divide", "drop 0 1", LIMIT);
        due(all + FORTY + "divide", "drop 6 1", BAD_VALUE);
        due(all + "write 9r19g19b19y13w1; pour; divide", "drop 0 1", 1);
        due(all + "write 9r19g19b19y13w1; pour", "drop 0 1", 40);
        due(all + FORTY, "drop 0 1", LIMIT);
    }

    private static void round() {
        check.topic("promise 9");
        due("", "round", NOT_POSSIBLE);
        due("drop 0 1", "round", NOT_POSSIBLE);
        due("come 0 0; leave 0", "round", NOT_POSSIBLE);
        due("come 0 0", "round", 0);
        due("come 0 0; drop 0 1", "round", 1);
        due(SIX + "write 5r1; pour", "round", 5);
        due(SIX + "write 6r1; pour", "round", 6);
        due(SIX + "write 7r1; pour", "round", 6);
        due(SIX + FORTY, "round", 6);
        for (int rule = 0; rule <= 2; rule++) {
            due(SIX + "setRule " + rule + "; write 5r1; pour", "round", rule == 2 ? 0 : 5);
            due(SIX + "setRule " + rule, "round", 0);
        }
    }

    private static void divide() {
        check.topic("promise 10");
        due("", "divide", NOT_POSSIBLE);
        due("drop 0 1", "divide", NOT_POSSIBLE);
        due("come 0 0; leave 0", "divide", NOT_POSSIBLE);
        due("come 0 0", "divide", 0);
        due("come 0 0; drop 0 1", "divide", 1);
        due("come 0 0; " + FORTY, "divide", 40);
        for (int rule = 0; rule <= 2; rule++) {
            MarbleHeirs x = Calls.machine(SIX + FORTY + "setRule " + rule);
            check.due("divide by rule " + rule, x.divide(), rule == 2 ? 6 : 7);
            check.due("total(1)", x.total(1), rule == 2 ? 4 : 0);
            check.due("total(5)", x.total(5), rule == 2 ? 6 : 7);
            check.due("at(0)", x.at(0), rule == 2 ? 0 : 1);
            check.due("divide again", x.divide(), 0);
            check.due("round again", x.round(), 0);
            check.due("total(5)", x.total(5), rule == 2 ? 6 : 7);
            check.due("undo() of the round", x.undo(), 4);
            check.due("undo() of divide again", x.undo(), 3);
            check.due("undo() of divide, one state for all its rounds", x.undo(), 2);
            check.due("total(1)", x.total(1), 40);
            check.due("total(5)", x.total(5), 0);
            check.due("at(0)", x.at(0), 0);
        }
        // The order turns with each round: of 4 for 3, the odd one is for the second heir.
        MarbleHeirs y = Calls.machine(THREE + "write r1r2r3r4; pour; divide");
        check.bag(y, 1, "r2r4");
        check.order(y, 2, 0, 1);
    }

    private static void swap() {
        check.topic("promise 11");
        String made = THREE + "write r5g5r4g4; pour; divide; ";
        // Bags: heir 0 r5, heir 1 g5 g4, heir 2 r4.
        due(made, "swap -1 0 1 0", NO_SUCH);
        due(made, "swap 3 0 1 0", NO_SUCH);
        due(made, "swap 0 -1 1 0", NO_SUCH);
        due(made, "swap 0 1 1 0", NO_SUCH);
        due(made, "swap 0 0 -1 0", NO_SUCH);
        due(made, "swap 0 0 3 0", NO_SUCH);
        due(made, "swap 0 0 1 -1", NO_SUCH);
        due(made, "swap 0 0 1 2", NO_SUCH);
        due(made, "swap 0 0 1 1", NONE);
        due(made, "swap 1 1 2 0", NONE);
        due(made, "swap 2 0 1 1", NONE);
        due(made, "swap 1 0 1 1", BAD_VALUE);
        due(made, "swap 1 1 1 1", BAD_VALUE);
        due(made, "swap 1 0 1 2", NO_SUCH);
        due(made, "swap 1 2 1 0", NO_SUCH);
        due(made, "swap 3 0 3 0", NO_SUCH);
        due("", "swap 0 0 0 0", NO_SUCH);
        due("come 0 0", "swap 0 0 0 0", NO_SUCH);
        due(THREE + "drop 0 1; round", "swap 0 0 1 0", NO_SUCH);
        due(made + "setPatience 0", "swap 0 0 1 1", 0);
        due(made + "setPatience 0", "swap 1 1 0 0", 0);
        due(made + "setPatience 0", "swap 0 0 1 0", NONE);
        due(made + "setPatience 0; grant 0 0", "swap 0 0 1 1", NONE);
        due(made + "setPatience 1", "swap 0 0 1 1", NONE);
    }

    private static void settle() {
        check.topic("promise 12");
        due("", "settle", 0);
        due("come 0 0; write 3g1; pour; divide", "settle", 0);
        due(THREE, "settle", 0);
        due(THREE + "write r1g1b1; pour", "settle", 0);
        due(THREE + "write r1g1b1; pour; round", "settle", 0);
        due(THREE + "write g1r1b1; pour; round", "settle", 1);
        due(THREE + "write g1b1r1; pour; round", "settle", 2);
        due("settle", "undo", 0);
        // A mother who would veto is not asked: no veto is used, none is counted.
        MarbleHeirs x = Calls.machine("come 0 0; come 1 1; write g9r1g3r1r6g8; pour; divide");
        check.bag(x, 0, "g9r1r6");
        check.bag(x, 1, "r1g3g8");
        check.due("settle", x.settle(), 0);
        check.due("total(6)", x.total(6), 0);
        check.due("total(7)", x.total(7), 0);
        check.due("vetoes(0)", x.vetoes(0), 2);
        x.setPatience(8);
        check.due("settle with patience 8", x.settle(), 1);
        check.bag(x, 0, "r1r1r6");
        check.bag(x, 1, "g9g3g8");
        check.due("total(6)", x.total(6), 1);
        check.due("vetoes(0)", x.vetoes(0), 2);
    }

    private static void settleUntilThereIsNone() {
        check.topic("promise 12: again and again, until it tells none");
        // No wish is fulfilled, and all can be.
        MarbleHeirs x = Calls.machine("come 0 0; come 1 1");
        // The order turns with each pair, so heir 0 has the green ones, heir 1 the red ones.
        for (int i = 0; i < 40; i += 4) {
            Calls.play(x, "drop 1 1; drop 0 1; drop 0 1; drop 1 1");
        }
        check.due("divide", x.divide(), 20);
        check.due("no wish is fulfilled", x.total(8), 0);
        check.due("bestSwap(4)", x.bestSwap(4), 2);
        check.due("settle", x.settle(), 20);
        check.due("every wish is fulfilled", x.total(8), 40);
        check.due("total(6)", x.total(6), 20);
        check.due("bestSwap(4)", x.bestSwap(4), NONE);
        check.due("settle again", x.settle(), 0);
        check.due("total(6)", x.total(6), 20);
        check.due("undo() of settle again", x.undo(), 4);
        check.due("undo() of settle, one state for all its swaps", x.undo(), 3);
        check.due("total(8)", x.total(8), 0);
        check.due("total(6)", x.total(6), 0);
    }

    private static void settleOfAFullMachine() {
        check.topic("promise 12: as many swaps as six heirs with 20 marbles each need");
        MarbleHeirs x = Calls.machine(SIX);
        // Each heir gets 20 marbles that the next one wishes for; the order turns with each round.
        String wishedByTheNext = "g1b1y1w1k1r1".repeat(2);
        for (int round = 0; round < 20; round++) {
            int first = round % 6 * 2;
            Calls.play(x, "write " + wishedByTheNext.substring(first, first + 12) + "; pour; round");
        }
        check.due("total(2)", x.total(2), 120);
        check.due("total(8)", x.total(8), 0);
        check.due("total(9)", x.total(9), 0);
        // Around the six of them, five swaps put six marbles right.
        check.due("settle", x.settle(), 100);
        check.due("total(6)", x.total(6), 100);
        check.due("total(8)", x.total(8), 120);
        check.due("bestSwap(0)", x.bestSwap(0), NONE);
        check.due("undo()", x.undo(), 4);
        check.due("total(8)", x.total(8), 0);
    }

    private static void heir() {
        check.topic("promise 13");
        due("", "heir 0 0", NO_SUCH);
        due("", "heir 0 6", NO_SUCH);
        due(THREE, "heir -1 0", NO_SUCH);
        due(THREE, "heir 3 0", NO_SUCH);
        due(THREE, "heir 3 6", NO_SUCH);
        due(THREE, "heir 2 -1", BAD_VALUE);
        due(THREE, "heir 2 6", BAD_VALUE);
        int[] empty = {2, 2, 0, 0, 0, 2};
        int[] full = {3, 4, 120, 120, 12, 0};
        String filled = "come 3 4; " + (FORTY + "divide; ").repeat(3);
        for (int part = 0; part <= 5; part++) {
            due(THREE, "heir 2 " + part, empty[part]);
            due(filled, "heir 0 " + part, full[part]);
        }
        due(SIX, "heir 5 5", 5);
        due(SIX + "drop 0 9; round", "heir 0 5", 5);
        due(SIX + "drop 0 9; round", "heir 5 5", 4);
        due(SIX + "drop 0 9; round", "heir 1 5", 0);
        due(SIX + "drop 0 9; round", "heir 0 4", 1);
        due("come 0 0; " + ("write 9r99r99r99r94r9; pour; divide; ").repeat(3), "heir 0 3", 1080);
        due("come 0 0; " + ("write 9r99r99r99r94r9; pour; divide; ").repeat(3), "heir 0 4", 120);
    }

    private static void bag() {
        check.topic("promise 14");
        due("", "bag 0 0 0", NO_SUCH);
        due("come 0 0", "bag 0 0 0", NO_SUCH);
        due("come 0 0", "bag 0 0 2", NO_SUCH);
        String made = "come 0 0; come 1 1; write r1g2k9; pour; divide";
        // Bags: heir 0 r1, heir 1 g2 k9.
        due(made, "bag -1 0 0", NO_SUCH);
        due(made, "bag 2 0 0", NO_SUCH);
        due(made, "bag 0 -1 0", NO_SUCH);
        due(made, "bag 0 1 0", NO_SUCH);
        due(made, "bag 1 2 0", NO_SUCH);
        due(made, "bag 1 2 2", NO_SUCH);
        due(made, "bag 1 1 -1", BAD_VALUE);
        due(made, "bag 1 1 2", BAD_VALUE);
        due(made, "bag 0 0 0", 0);
        due(made, "bag 0 0 1", 1);
        due(made, "bag 1 1 0", 5);
        due(made, "bag 1 1 1", 9);
        String full = "come 0 0; " + (FORTY + "divide; ").repeat(2) + "write 9r19g19b19y13w1k9;"
                + " pour; divide";
        due(full, "bag 0 119 0", 5);
        due(full, "bag 0 119 1", 9);
        due(full, "bag 0 120 0", NO_SUCH);
    }

    private static void hopper() {
        check.topic("promise 15");
        due("", "hopper 0 0", NO_SUCH);
        due("", "hopper 0 2", NO_SUCH);
        due("drop 5 9", "hopper -1 0", NO_SUCH);
        due("drop 5 9", "hopper 1 0", NO_SUCH);
        due("drop 5 9", "hopper 1 2", NO_SUCH);
        due("drop 5 9", "hopper 0 -1", BAD_VALUE);
        due("drop 5 9", "hopper 0 2", BAD_VALUE);
        due("drop 5 9", "hopper 0 0", 5);
        due("drop 5 9", "hopper 0 1", 9);
        due(FORTY, "hopper 0 0", 0);
        due(FORTY, "hopper 39 0", 4);
        due(FORTY, "hopper 40 0", NO_SUCH);
        due("come 0 0; " + FORTY + "divide", "hopper 0 0", NO_SUCH);
    }

    private static void vetoes() {
        check.topic("promise 16");
        due("", "vetoes -1", NO_SUCH);
        due("", "vetoes 0", 2);
        due("", "vetoes 3", 2);
        due("", "vetoes 4", NO_SUCH);
        due("grant 3 9", "vetoes 3", 9);
        due("grant 0 0", "vetoes 0", 0);
    }

    private static void at() {
        check.topic("promise 17");
        due("", "at 0", NO_SUCH);
        due(THREE, "at -1", NO_SUCH);
        due(THREE, "at 0", 0);
        due(THREE, "at 2", 2);
        due(THREE, "at 3", NO_SUCH);
        due(SIX, "at 5", 5);
        due(SIX, "at 6", NO_SUCH);
        due(SIX + "drop 0 1; round", "at 5", 0);
        due(SIX + "drop 0 1; round; leave 0", "at 5", NO_SUCH);
        due(SIX + "drop 0 1; round; leave 0", "at 4", 4);
        due("come 0 0; leave 0", "at 0", NO_SUCH);
    }

    private static void total() {
        check.topic("promise 18");
        due("", "total -1", BAD_VALUE);
        due("", "total 13", BAD_VALUE);
        // 40 marbles of 1 in the hopper, 13, 14, 14, 14, 13 and 12 in the bags.
        String full = SIX + FORTY + "divide; " + FORTY + "divide; " + FORTY + "setRule 2;"
                + " setPatience 8";
        int[] due = {6, 40, 80, 40, 80, 14, 0, 0, -1, 2, 2, 2, 8};
        for (int what = 0; what <= 12; what++) {
            if (what != 8) {
                due(full, "total " + what, due[what]);
            }
        }
        // One heir has all, the other ones none.
        String one = "come 0 0; " + ("write 9r99r99r99r94r9; pour; divide; ").repeat(3)
                + "come 1 1; come 2 2";
        int[] dueOfOne = {3, 0, 120, 0, 1080, 120, 0, 0, 120, 120, 1080, 0, 2};
        for (int what = 0; what <= 12; what++) {
            due(one, "total " + what, dueOfOne[what]);
        }
        // Rounds that give nothing, swaps that are not made and vetoes of whoVetoes() do not count.
        String two = "come 0 0; come 1 1; write r9g1; pour; round; ";
        due(two + "round; divide", "total 5", 1);
        due(two + "ifDivided 0 0; fairestRule", "total 5", 1);
        due(two + "swap 0 0 1 0", "total 6", 0);
        due(two + "swap 0 0 1 0", "total 7", 1);
        due(two + "whoVetoes 0 0 1 0", "total 7", 0);
        due(two + "grant 0 0; swap 0 0 1 0", "total 6", 1);
        due(two + "grant 0 0; swap 0 0 1 0", "total 7", 0);
        due(two + "swap 0 0 0 0; swap 0 1 1 0", "total 6", 0);
        // A wish counts for marbles in bags alone.
        due("come 0 0; write r1r2g1; pour; round", "total 8", 1);
        due(two, "total 8", 2);
        due(two + "wish 0 1; wish 1 0", "total 8", 0);
    }

    private static void totalOfDifferences() {
        check.topic("promise 18: 9 and 10: 0 without heirs");
        for (int what = 9; what <= 10; what++) {
            due("", "total " + what, 0);
            due("drop 0 9", "total " + what, 0);
            due("come 0 0; drop 0 9; round; leave 0", "total " + what, 0);
            due("come 0 0; drop 0 9; round", "total " + what, 0);
            due("come 0 0; come 1 1", "total " + what, 0);
            due("come 0 0; come 1 1; drop 0 9; round", "total " + what, what == 9 ? 1 : 9);
        }
        // The greatest and the least bag may be any, and other ones by number than by sum.
        due(THREE + "write r1g9b5y1; pour; divide", "total 9", 1);
        due(THREE + "write r1g9b5y1; pour; divide", "total 10", 9);
        due(THREE + "write r9g1b5y1; pour; divide", "total 10", 7);
        due(THREE + "write r9g1b5y1; pour; divide", "total 9", 1);
        due(THREE + "write r5g1b9; pour; divide", "total 10", 8);
        due(THREE + "write r5g9b1; pour; divide", "total 10", 8);
    }

    private static void ifDivided() {
        check.topic("promise 19");
        due("", "ifDivided 0 0", NO_SUCH);
        due("", "ifDivided 0 3", NO_SUCH);
        due(THREE, "ifDivided -1 0", NO_SUCH);
        due(THREE, "ifDivided 3 0", NO_SUCH);
        due(THREE, "ifDivided 3 3", NO_SUCH);
        due(THREE, "ifDivided 2 -1", BAD_VALUE);
        due(THREE, "ifDivided 2 3", BAD_VALUE);
        for (int part = 0; part <= 2; part++) {
            due(THREE, "ifDivided 2 " + part, 0);
            due("come 0 0; " + FORTY, "ifDivided 0 " + part, part == 2 ? 9 : 40);
            due("come 0 0; " + (FORTY + "divide; ").repeat(2) + FORTY, "ifDivided 0 " + part,
                    part == 2 ? 27 : 120);
        }
        // The odd ones count as the rule gives them.
        String odd = "come 0 0; come 1 1; write r1g9; pour; round; drop 0 7; setRule ";
        int[] first = {1, 8, 1};
        int[] second = {16, 9, 9};
        for (int rule = 0; rule <= 2; rule++) {
            due(odd + rule, "ifDivided 0 1", first[rule]);
            due(odd + rule, "ifDivided 1 1", second[rule]);
        }
        changesNothing(odd + "1", "ifDivided 0 0");
        changesNothing(odd + "1", "ifDivided 1 2");
    }

    /** Predictions record no state either. */
    private static void changesNothing(String ahead, String call) {
        MarbleHeirs x = Calls.machine(ahead);
        String before = Calls.readings(x);
        Calls.tell(x, call);
        check.holds(call + " changes nothing", before.equals(Calls.readings(x)));
        int left = Calls.tell(Calls.machine(ahead), "undo");
        check.due("undo() behind " + call, x.undo(), left);
    }

    private static void fairestRule() {
        check.topic("promise 20");
        due("", "fairestRule", NONE);
        due("drop 0 1", "fairestRule", NONE);
        due("come 0 0; leave 0", "fairestRule", NONE);
        due("come 0 0", "fairestRule", 0);
        due("come 0 0; setRule 2; " + FORTY, "fairestRule", 0);
        due(SIX + "setRule 1", "fairestRule", 0);
        due(SIX + "setRule 2; write 6r1; pour", "fairestRule", 0);
        // Six marbles of 1 for six heirs, and one more: with rule 2 it stays.
        due(SIX + "write 7r1; pour", "fairestRule", 2);
        // Rule 0 as fair as rule 1: the lowest.
        due("come 0 0; come 1 1; setRule 1; write r9g1b1; pour", "fairestRule", 0);
        due("come 0 0; come 1 1; setRule 2; write r1g9b8; pour", "fairestRule", 1);
        due("come 0 0; come 1 1; setRule 2; write r1g9b8; pour; divide; undo", "fairestRule", 1);
        // Rule 1 as fair as rule 2: a difference of 4 either way.
        due("come 0 0; come 1 1; write r1g5b8; pour", "fairestRule", 1);
        // A full hopper, which divides itself with four odd ones.
        due(SIX + FORTY, "fairestRule", 2);
        changesNothing(SIX + "setRule 1; write 7r1; pour", "fairestRule");
        changesNothing("come 0 0; come 1 1; setRule 2; write r1g9b8; pour", "fairestRule");
    }

    private static void whoVetoes() {
        check.topic("promise 21");
        String made = THREE + "write r5g5r4g1; pour; divide; ";
        // Bags: heir 0 r5, heir 1 g5 g1, heir 2 r4.
        due(made, "whoVetoes -1 0 1 0", NO_SUCH);
        due(made, "whoVetoes 3 0 1 0", NO_SUCH);
        due(made, "whoVetoes 0 -1 1 0", NO_SUCH);
        due(made, "whoVetoes 0 1 1 0", NO_SUCH);
        due(made, "whoVetoes 0 0 -1 0", NO_SUCH);
        due(made, "whoVetoes 0 0 3 0", NO_SUCH);
        due(made, "whoVetoes 0 0 1 -1", NO_SUCH);
        due(made, "whoVetoes 0 0 1 2", NO_SUCH);
        due(made, "whoVetoes 1 0 1 2", NO_SUCH);
        due(made, "whoVetoes 3 0 3 0", NO_SUCH);
        due(made, "whoVetoes 1 0 1 1", BAD_VALUE);
        due(made, "whoVetoes 1 0 1 0", BAD_VALUE);
        due(made, "whoVetoes 0 0 1 1", 0);
        due(made, "whoVetoes 1 1 0 0", 0);
        due(made, "whoVetoes 2 0 1 1", 2);
        due(made, "whoVetoes 1 1 2 0", 2);
        due(made + "setPatience 3", "whoVetoes 2 0 1 1", NONE);
        due(made + "setPatience 3", "whoVetoes 0 0 1 1", 0);
        due(made + "setPatience 4", "whoVetoes 0 0 1 1", NONE);
        due(made + "grant 0 0", "whoVetoes 0 0 1 1", NONE);
        due(made + "grant 0 1", "whoVetoes 0 0 1 1", 0);
        due("", "whoVetoes 0 0 0 0", NO_SUCH);
        changesNothing(made, "whoVetoes 0 0 1 1");
        changesNothing(made, "whoVetoes 0 0 1 0");
    }

    private static void best(String ahead, int... answers) {
        for (int part = 0; part <= 4; part++) {
            due(ahead, "bestSwap " + part, answers.length == 0 ? NONE : answers[part]);
        }
    }

    private static void bestSwapGrowth() {
        check.topic("promise 22: by 1 at least");
        due("", "bestSwap -1", BAD_VALUE);
        due("", "bestSwap 5", BAD_VALUE);
        best("");
        best("come 0 0; write g1r1; pour; divide");
        best(THREE);
        String two = "come 0 0; come 1 1; write ";
        // A growth of 2, of 1 by either heir, of 0 and of less.
        best(two + "g1r1; pour; round", 0, 0, 1, 0, 2);
        best(two + "b1r1; pour; round", 0, 0, 1, 0, 1);
        best(two + "g1b1; pour; round", 0, 0, 1, 0, 1);
        best(two + "b1y1; pour; round");
        best(two + "r1b1; pour; round");
        best(two + "r1g1; pour; round");
        best(two + "r1r2; pour; round");
        // Whom the wishes agree with, a swap helps one as much as it harms the other.
        best("come 0 0; come 1 0; write g1r1; pour; round");
        // Marbles of the hopper are not swapped.
        best(two + "b1y1r1g1; pour; round");
        best(SIX + "write r1g1b1y1w1k1; pour; round; write g1r1; pour");
        // An heir without marbles swaps none, whether the other ones have few or all 120.
        best(two + "g1; pour; round");
        best("come 0 0; " + (FORTY + "divide; ").repeat(3) + "come 1 1");
        best("come 0 5; come 1 0; leave 0; " + (FORTY + "divide; ").repeat(3) + SIX);
        changesNothing(two + "g1r1; pour; round", "bestSwap 4");
    }

    private static void bestSwapOfSeveral() {
        check.topic("promise 22: of several");
        String two = "come 0 0; come 1 1; setPatience 8; write ";
        // The most growth, even with the greatest difference.
        // Bags: heir 0 b9 g1, heir 1 r9 y1.
        best(two + "b9r9y1g1; pour; divide", 0, 1, 1, 0, 2);
        best(two + "b9r9y1g1; pour; divide; setPatience 7", 0, 0, 1, 0, 1);
        // The least difference, without its sign, even at later places.
        best(two + "b5r7r4b5; pour; divide", 0, 0, 1, 1, 1);
        best(two + "b5r6r3b5; pour; divide", 0, 0, 1, 0, 1);
        best(two + "b5r4r6b5; pour; divide", 0, 0, 1, 0, 1);
        best(two + "b5r6r5b5; pour; divide", 0, 0, 1, 1, 1);
        // The lowest first heir, his lowest place, the lowest second heir, the lowest place there.
        String six = SIX + "setPatience 8; write ";
        best(six + "g1r1y1b1k1w1; pour; round", 0, 0, 1, 0, 2);
        best(six + "r1g1y1b1k1w1; pour; round", 2, 0, 3, 0, 2);
        best(six + "r1g1b1y1k1w1; pour; round", 4, 0, 5, 0, 2);
        best(six + "k1g1b1y1w1r1; pour; round", 0, 0, 5, 0, 2);
        best("come 0 0; come 1 1; come 2 1; write b1r1r1; pour; round", 0, 0, 1, 0, 1);
        best("come 0 0; come 1 1; come 2 1; write b1y1r1; pour; round", 0, 0, 2, 0, 1);
        best(two + "b1r1r1b1b1r1; pour; divide", 0, 0, 1, 0, 1);
        // Bags: heir 0 y1 g1 r1 and heir 1 g1 y1 r1, then heir 0 g1 y1 r1 and heir 1 y1 r1 r1.
        best(two + "y1g1y1g1r1r1; pour; divide", 0, 1, 1, 2, 2);
        best(two + "g1y1r1y1r1r1; pour; divide", 0, 0, 1, 1, 2);
        // The lower number is the first heir's, whatever the order.
        best("come 0 0; come 1 1; write b1y1; pour; round; write r1g1; pour; round", 0, 1, 1, 1,
                2);
    }

    private static void bestSwapThatIsVetoed() {
        check.topic("promise 22: the swap that no mother would veto");
        String two = "come 0 0; come 1 1; write ";
        best(two + "g9r6; pour; round");
        best(two + "g9r7; pour; round", 0, 0, 1, 0, 2);
        best(two + "g6r9; pour; round");
        best(two + "g7r9; pour; round", 0, 0, 1, 0, 2);
        best(two + "g9r6; pour; round; setPatience 3", 0, 0, 1, 0, 2);
        best(two + "g9r6; pour; round; grant 0 0", 0, 0, 1, 0, 2);
        best(two + "g9r6; pour; round; grant 1 0");
        best(two + "g6r9; pour; round; grant 1 0", 0, 0, 1, 0, 2);
        best(two + "g6r9; pour; round; grant 0 0");
        // The last vetoes are used, and the swap is free.
        best(two + "g9r6; pour; round; swap 0 0 1 0; swap 0 0 1 0", 0, 0, 1, 0, 2);
        best(two + "g9r6; pour; round; swap 0 0 1 0");
    }

    private static void append() {
        check.topic("promise 23");
        due("", "append 32", BAD_VALUE);
        due("", "append 33", 1);
        due("", "append 126", 1);
        due("", "append 127", BAD_VALUE);
        String fortyNine = "write " + "r1".repeat(24) + "r";
        due(fortyNine, "append 49", 50);
        due(fortyNine + "1", "append 49", LIMIT);
        due(fortyNine + "1", "append 32", BAD_VALUE);
        due(fortyNine + "1", "append 127", BAD_VALUE);
        due(fortyNine + "1; append 49", "clearText", 50);
        due(fortyNine + "1; clearText", "append 49", 1);
        due(fortyNine + "1; pour", "append 49", 1);
        due("append 33", "undo", NOT_POSSIBLE);
    }

    private static void clearText() {
        check.topic("promise 24");
        due("", "clearText", 0);
        due("append 33", "clearText", 1);
        due("append 33; clearText", "clearText", 0);
        due("write " + "x".repeat(50), "clearText", 50);
        due("write x; clearText", "errorPosition", 0);
        due("write x; clearText", "undo", NOT_POSSIBLE);
        due("write x; clearText; write r1", "errorPosition", NONE);
    }

    private static void errorPosition() {
        check.topic("promise 25");
        due("", "errorPosition", 0);
        due("write 0", "errorPosition", 0);
        due("write r", "errorPosition", 1);
        due("write r1", "errorPosition", NONE);
        due("write r1r", "errorPosition", 3);
        due("write r1rr", "errorPosition", 3);
        due("write " + "9k9".repeat(16) + "k9", "errorPosition", NONE);
        due("write " + "9k9".repeat(16) + "9k", "errorPosition", 50);
        due("write " + "9k9".repeat(16) + "99", "errorPosition", 49);
        due("write " + "9k9".repeat(16), "errorPosition", NONE);
        // That the marbles would find no room is no error of the text.
        due(FORTY + "write r1", "errorPosition", NONE);
        changesNothing("drop 0 1; write r1rr", "errorPosition");
        due("write r1rr; errorPosition", "clearText", 4);
    }

    private static void pour() {
        check.topic("promise 26");
        due("", "pour", BAD_TEXT);
        due("write r", "pour", BAD_TEXT);
        due("write r1", "pour", 1);
        due("write r1x", "pour", BAD_TEXT);
        due("drop 0 1; write 9r1", "pour", 10);
        String nearly = "write 9r19g19b19y1; pour; ";
        due(nearly + "write 4w1", "pour", 40);
        due(nearly + "write 5w1", "pour", LIMIT);
        due(nearly + "write 5w1", "clearText", 3);
        due(nearly + "write 5w1; pour", "clearText", 3);
        due(nearly + "write 5w1; pour", "total 1", 36);
        due(nearly + "write 5w1; pour", "undo", 0);
        due(nearly + "write 5w; pour", "clearText", 2);
        due(nearly + "write 4w1; pour", "clearText", 0);
        due(nearly + "write 4w1; pour; write r", "pour", BAD_TEXT);
        due(nearly + "write 4w1; pour; write r1", "pour", LIMIT);
        due(nearly + "write 4w1; pour", "pour", BAD_TEXT);
        due("write " + "9k9".repeat(16) + "k9", "pour", LIMIT);
        due("write " + "9k9".repeat(16) + "k9; pour", "total 1", 0);
        String all = "come 0 0; " + (FORTY + "divide; ").repeat(2) + nearly + "divide; ";
        due(all + "write 4w1", "pour", 4);
        due(all + "write 5w1", "pour", LIMIT);
        due(all + "write 2w13k1", "pour", LIMIT);
        due(all + "write 2w13k1; pour", "total 1", 0);
        due(all + "write 4w1; pour; divide; write r1", "pour", LIMIT);
        due(all + "write 4w1; pour; divide; write r", "pour", BAD_TEXT);
    }

    private static void undo() {
        check.topic("promise 27");
        due("", "undo", NOT_POSSIBLE);
        due("drop 0 1", "undo", 0);
        due("drop 0 1; undo", "undo", NOT_POSSIBLE);
        due("drop 0 1; undo", "total 1", 0);
        due("drop 0 1; drop 0 1; drop 0 1; drop 0 1; drop 0 1", "undo", 4);
        due("drop 0 1; drop 0 1; drop 0 1; drop 0 1; drop 0 1; drop 0 1", "undo", 4);
        String six = "drop 0 1; ".repeat(6) + "undo; undo; undo; undo; ";
        due(six, "undo", 0);
        due(six + "undo", "undo", NOT_POSSIBLE);
        due(six + "undo", "total 1", 1);
        due(six + "undo; undo", "total 1", 1);
        // undo() is not undoable: the next one goes further back.
        due("drop 0 1; drop 0 2; drop 0 3; undo; undo", "total 1", 1);
    }

    private static void save() {
        check.topic("promise 28");
        due("", "save", 0);
        due(SIX, "save", 6);
        due("save; come 0 0; save", "restore", 1);
        due("come 0 0; save; leave 0; save", "restore", 0);
        due("save", "undo", NOT_POSSIBLE);
        due("come 0 0; save; undo", "restore", 1);
        // The saved state does not go along with the current one.
        due("come 0 0; save; come 1 1; wish 0 5; restore", "heir 0 1", 0);
        due("come 0 0; save; drop 0 1; round; restore", "total 2", 0);
    }

    private static void restore() {
        check.topic("promise 29");
        due("", "restore", NOT_POSSIBLE);
        due(SIX, "restore", NOT_POSSIBLE);
        due("restore", "undo", NOT_POSSIBLE);
        due("save", "restore", 0);
        due("save; " + SIX, "restore", 0);
        due(SIX + "save; leave 0; leave 0", "restore", 6);
        due("come 0 0; save; restore", "undo", 1);
        due("come 0 0; save; leave 0; restore; undo", "total 0", 0);
        due("come 0 0; save; leave 0; restore; leave 0", "restore", 1);
        // A state restored and then changed is restored as it was saved.
        due("come 0 0; save; restore; wish 0 5; restore", "heir 0 1", 0);
        due("come 0 0; save; restore; drop 0 1; restore", "total 1", 0);
        due("come 0 0; drop 0 1; save; restore; round; restore", "total 2", 0);
        due("grant 0 9; save; grant 0 1; restore", "vetoes 0", 9);
        due("setRule 1; setPatience 7; save; setRule 2; setPatience 3; restore", "total 11", 1);
        due("setRule 1; setPatience 7; save; setRule 2; setPatience 3; restore", "total 12", 7);
    }
}
