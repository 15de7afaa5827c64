/** Promises 8 to 12: drop, rounds, swaps. */
public final class MarblesTest {
    private static final int NO_SUCH = MarbleHeirs.NO_SUCH;
    private static final int BAD_VALUE = MarbleHeirs.BAD_VALUE;
    private static final int NOT_POSSIBLE = MarbleHeirs.NOT_POSSIBLE;
    private static final int LIMIT = MarbleHeirs.LIMIT;
    private static final int NONE = MarbleHeirs.NONE;
    private static final int LEAST = Integer.MIN_VALUE;
    private static final int MOST = Integer.MAX_VALUE;
    private static final String FORTY = "9r19g19b19y14w1";

    private static final Check check = new Check("MarblesTest");

    public static void main(String[] args) {
        drop();
        dropAtTheLimits();
        round();
        roundWithRule0();
        roundWithRule1();
        roundWithRule2();
        divide();
        divideByRules();
        swapErrors();
        swap();
        swapVetoes();
        swapWithoutVetoesLeft();
        swapOfOneMother();
        settle();
        settleByOne();
        settleWithVetoes();
        check.end();
    }

    private static void drop() {
        check.topic("promise 8");
        MarbleHeirs x = new MarbleHeirs();
        for (int wrong : new int[] {-1, 6, LEAST, MOST}) {
            check.due("drop(" + wrong + ", 1)", x.drop(wrong, 1), BAD_VALUE);
        }
        for (int wrong : new int[] {-1, 0, 10, LEAST, MOST}) {
            check.due("drop(0, " + wrong + ")", x.drop(0, wrong), BAD_VALUE);
        }
        check.due("undo()", x.undo(), NOT_POSSIBLE);
        check.due("drop(0, 1)", x.drop(0, 1), 1);
        check.due("drop(5, 9)", x.drop(5, 9), 2);
        check.due("drop(0, 9)", x.drop(0, 9), 3);
        check.hopper(x, "r1k9r9");
        check.due("undo()", x.undo(), 2);
        check.hopper(x, "r1k9");
    }

    private static void dropAtTheLimits() {
        MarbleHeirs x = new MarbleHeirs();
        for (int i = 1; i <= 40; i++) {
            check.due("drop", x.drop(i % 6, i % 9 + 1), i);
        }
        check.due("drop as the 41st", x.drop(0, 1), LIMIT);
        check.due("drop(6, 1) as the 41st", x.drop(6, 1), BAD_VALUE);
        check.due("hopper then", x.total(1), 40);
        x.come(0, 0);
        x.divide();
        Check.pour(x, FORTY);
        x.divide();
        Check.pour(x, "9r19g19b19y13w1");
        check.due("drop as the 120th", x.drop(0, 1), 40);
        check.due("divide", x.divide(), 40);
        check.due("drop as the 121st", x.drop(0, 1), LIMIT);
        check.due("marbles in the bag", x.heir(0, 2), 120);
        check.due("the last one of 120", x.bag(0, 119, 0), 0);
        check.due("the 121st", x.bag(0, 120, 0), NO_SUCH);
        check.due("leave with 120", x.leave(0), LIMIT);
    }

    private static void round() {
        check.topic("promise 9");
        MarbleHeirs x = new MarbleHeirs();
        x.drop(0, 1);
        check.due("round() without heirs", x.round(), NOT_POSSIBLE);
        check.due("undo()", x.undo(), 0);
        x = Check.machine("00 11 22");
        check.due("round() without marbles", x.round(), 0);
        check.order(x, 0, 1, 2);
        check.due("total(5)", x.total(5), 0);
        check.due("undo() of it", x.undo(), 3);
        Check.pour(x, "r1g2b3y4w5k6r7");
        check.due("round()", x.round(), 3);
        check.bag(x, 0, "r1");
        check.bag(x, 1, "g2");
        check.bag(x, 2, "b3");
        check.hopper(x, "y4w5k6r7");
        check.order(x, 1, 2, 0);
        check.due("total(5)", x.total(5), 1);
        check.due("round()", x.round(), 3);
        check.bag(x, 1, "g2y4");
        check.bag(x, 2, "b3w5");
        check.bag(x, 0, "r1k6");
        check.order(x, 2, 0, 1);
        check.due("undo()", x.undo(), 4);
        check.order(x, 1, 2, 0);
        check.bag(x, 0, "r1");
        check.hopper(x, "y4w5k6r7");
        check.due("total(5)", x.total(5), 1);
    }

    private static void roundWithRule0() {
        MarbleHeirs x = Check.machine("00 11 22");
        Check.pour(x, "r9r5r1r2r3");
        x.round();
        check.due("round()", x.round(), 2);
        check.order(x, 2, 0, 1);
        check.bag(x, 0, "r9");
        check.bag(x, 1, "r5r2");
        check.bag(x, 2, "r1r3");
        check.due("total(5)", x.total(5), 2);
    }

    private static void roundWithRule1() {
        MarbleHeirs x = Check.machine("00 11 22 33");
        x.setRule(1);
        Check.pour(x, "r9r5r1r5r7r2r3");
        x.round();
        check.order(x, 1, 2, 3, 0);
        check.due("round()", x.round(), 3);
        // Heir 2 is the poorest, with 1; of the next two, with 5, heir 1 stands first.
        check.bag(x, 2, "r1r7");
        check.bag(x, 1, "r5r2");
        check.bag(x, 3, "r5r3");
        check.bag(x, 0, "r9");
        check.order(x, 2, 3, 0, 1);
        check.due("total(5)", x.total(5), 2);

        // Who got one in this round gets no other, even if still the poorest.
        MarbleHeirs y = Check.machine("00 11 22");
        y.setRule(1);
        Check.pour(y, "r9r8r1r1r1");
        y.divide();
        check.bag(y, 2, "r1r1");
        check.bag(y, 1, "r8r1");
        check.bag(y, 0, "r9");

        // Of several the one who stands first, not the one with the lowest number.
        MarbleHeirs z = Check.machine("00 11");
        z.setRule(1);
        Check.pour(z, "r4r4g1");
        z.divide();
        check.bag(z, 1, "r4g1");
        check.order(z, 0, 1);

        // A full round asks no rule.
        MarbleHeirs w = Check.machine("00 11");
        w.setRule(1);
        Check.pour(w, "r1r9g1g9");
        w.divide();
        check.bag(w, 0, "r1g9");
        check.bag(w, 1, "r9g1");
    }

    private static void roundWithRule2() {
        MarbleHeirs x = Check.machine("00 11");
        x.setRule(2);
        Check.pour(x, "r1r2r3");
        check.due("round()", x.round(), 2);
        check.due("round()", x.round(), 0);
        check.hopper(x, "r3");
        check.order(x, 1, 0);
        check.due("total(5)", x.total(5), 1);
        check.due("undo()", x.undo(), 4);
        check.hopper(x, "r3");
    }

    private static void divide() {
        check.topic("promise 10");
        MarbleHeirs x = new MarbleHeirs();
        check.due("divide() without heirs", x.divide(), NOT_POSSIBLE);
        check.due("undo()", x.undo(), NOT_POSSIBLE);
        x = Check.machine("00 11 22");
        check.due("divide() without marbles", x.divide(), 0);
        check.due("undo() of it", x.undo(), 3);
        Check.pour(x, "r1r2r3r4r5r6r7");
        check.due("divide()", x.divide(), 3);
        check.bag(x, 0, "r1r6");
        check.bag(x, 1, "r2r4");
        check.bag(x, 2, "r3r5r7");
        check.hopper(x, "");
        check.order(x, 0, 1, 2);
        check.due("total(5)", x.total(5), 3);
        check.due("undo()", x.undo(), 4);
        check.hopper(x, "r1r2r3r4r5r6r7");
        check.due("total(5)", x.total(5), 0);
        MarbleHeirs one = Check.machine("00");
        Check.pour(one, FORTY);
        check.due("divide() of 40 for one", one.divide(), 40);
        check.due("total(1)", one.total(1), 0);
    }

    private static void divideByRules() {
        MarbleHeirs x = Check.machine("00 11 22");
        Check.pour(x, "r9r5r1r2r3");
        x.setRule(1);
        check.due("divide() by rule 1", x.divide(), 2);
        check.bag(x, 2, "r1r2");
        check.bag(x, 1, "r5r3");
        x.undo();
        x.setRule(2);
        check.due("divide() by rule 2", x.divide(), 1);
        check.hopper(x, "r2r3");
        check.due("divide() by rule 2 again", x.divide(), 0);
        check.order(x, 1, 2, 0);
    }

    private static void swapErrors() {
        check.topic("promise 11");
        MarbleHeirs x = Check.machine("00 11 22");
        Check.pour(x, "r5g5");
        x.round();
        for (int wrong : new int[] {-1, 3, LEAST, MOST}) {
            check.due("swap of no first heir", x.swap(wrong, 0, 1, 0), NO_SUCH);
            check.due("swap of no second heir", x.swap(0, 0, wrong, 0), NO_SUCH);
            check.due("swap of no first marble", x.swap(0, wrong, 1, 0), NO_SUCH);
            check.due("swap of no second marble", x.swap(0, 0, 1, wrong), NO_SUCH);
            check.due("whoVetoes of no first heir", x.whoVetoes(wrong, 0, 1, 0), NO_SUCH);
            check.due("whoVetoes of no second heir", x.whoVetoes(0, 0, wrong, 0), NO_SUCH);
            check.due("whoVetoes of no first marble", x.whoVetoes(0, wrong, 1, 0), NO_SUCH);
            check.due("whoVetoes of no second marble", x.whoVetoes(0, 0, 1, wrong), NO_SUCH);
        }
        check.due("swap(0, 1, 1, 0)", x.swap(0, 1, 1, 0), NO_SUCH);
        check.due("swap(0, 0, 1, 1)", x.swap(0, 0, 1, 1), NO_SUCH);
        check.due("swap(0, 0, 2, 0)", x.swap(0, 0, 2, 0), NO_SUCH);
        check.due("swap(2, 0, 0, 0)", x.swap(2, 0, 0, 0), NO_SUCH);
        check.due("swap(0, 0, 0, 1)", x.swap(0, 0, 0, 1), NO_SUCH);
        check.due("swap(3, 0, 3, 0)", x.swap(3, 0, 3, 0), NO_SUCH);
        check.due("swap(0, 0, 0, 0)", x.swap(0, 0, 0, 0), BAD_VALUE);
        check.due("swap(1, 0, 1, 0)", x.swap(1, 0, 1, 0), BAD_VALUE);
        check.bag(x, 0, "r5");
        check.bag(x, 1, "g5");
        check.due("undo()", x.undo(), 4);
        check.due("total(2) behind undo", x.total(2), 0);
    }

    private static void swap() {
        MarbleHeirs x = Check.machine("00 11 22");
        Check.pour(x, "r1g2b3g4r4b5b6r7g7");
        x.divide();
        check.bag(x, 0, "r1b5r7");
        check.bag(x, 1, "g2g4g7");
        check.bag(x, 2, "b3r4b6");
        check.due("swap(0, 1, 2, 2)", x.swap(0, 1, 2, 2), NONE);
        check.bag(x, 0, "r1b6r7");
        check.bag(x, 2, "b3r4b5");
        check.due("swap(2, 0, 1, 1)", x.swap(2, 0, 1, 1), NONE);
        check.bag(x, 2, "g4r4b5");
        check.bag(x, 1, "g2b3g7");
        check.due("total(6)", x.total(6), 2);
        check.due("total(7)", x.total(7), 0);
        check.due("undo()", x.undo(), 4);
        check.bag(x, 1, "g2g4g7");
        check.due("total(6)", x.total(6), 1);
    }

    private static void swapVetoes() {
        // Bags: heir 0 (mother 2) has r9 r5 r3, heir 1 (mother 1) has g1 g3 g6.
        MarbleHeirs x = Check.machine("20 11");
        Check.pour(x, "r9g1g3r5r3g6");
        x.divide();
        check.bag(x, 0, "r9r5r3");
        check.bag(x, 1, "g1g3g6");
        check.due("loss of 2 = patience", x.swap(0, 1, 1, 1), NONE);
        check.due("back", x.swap(0, 1, 1, 1), NONE);
        check.due("loss of 3 for the first", x.swap(0, 0, 1, 2), 2);
        check.bag(x, 0, "r9r5r3");
        check.due("vetoes(2)", x.vetoes(2), 1);
        check.due("vetoes(1)", x.vetoes(1), 2);
        check.due("total(6)", x.total(6), 2);
        check.due("total(7)", x.total(7), 1);
        check.due("loss of 3 for the second", x.swap(0, 2, 1, 2), 1);
        check.due("vetoes(1)", x.vetoes(1), 1);
        check.due("the other way round", x.swap(1, 2, 0, 2), 1);
        check.due("vetoes(1)", x.vetoes(1), 0);
        check.due("total(7)", x.total(7), 3);
        check.due("undo() of a veto", x.undo(), 4);
        check.due("vetoes(1)", x.vetoes(1), 1);
        check.due("total(7)", x.total(7), 2);
        x.setPatience(3);
        check.due("loss of 3 with patience 3", x.swap(0, 2, 1, 2), NONE);
        check.bag(x, 0, "r9r5g6");
        check.bag(x, 1, "g1g3r3");
        x.setPatience(0);
        check.due("loss of 1 with patience 0", x.swap(0, 2, 1, 2), 2);
    }

    private static void swapWithoutVetoesLeft() {
        MarbleHeirs x = Check.machine("20 11");
        Check.pour(x, "r9g1");
        x.divide();
        x.grant(2, 1);
        check.due("with the last veto", x.swap(0, 0, 1, 0), 2);
        check.due("without a veto", x.swap(0, 0, 1, 0), NONE);
        check.bag(x, 0, "g1");
        check.due("vetoes(2)", x.vetoes(2), 0);
        check.due("vetoes(1)", x.vetoes(1), 2);
        check.due("total(6)", x.total(6), 1);
        check.due("total(7)", x.total(7), 1);
        check.due("now the other one loses", x.swap(0, 0, 1, 0), 1);
        check.due("with patience 8", x.setPatience(8), 2);
        check.due("a loss of 8", x.swap(0, 0, 1, 0), NONE);
    }

    private static void swapOfOneMother() {
        MarbleHeirs x = Check.machine("30 31");
        Check.pour(x, "r9g1");
        x.divide();
        check.due("she vetoes for the first", x.swap(0, 0, 1, 0), 3);
        check.due("vetoes(3)", x.vetoes(3), 1);
        check.due("she vetoes for the second", x.swap(1, 0, 0, 0), 3);
        check.due("vetoes(3)", x.vetoes(3), 0);
        check.due("she has to let it pass", x.swap(1, 0, 0, 0), NONE);
    }

    private static void settle() {
        check.topic("promise 12");
        MarbleHeirs x = new MarbleHeirs();
        check.due("settle() without heirs", x.settle(), 0);
        check.due("undo() of it", x.undo(), 0);
        x = Check.machine("00 11 22");
        Check.pour(x, "b1r1g1b2r2g2");
        x.divide();
        // Heir 0 wishes r, heir 1 g, heir 2 b.
        check.bag(x, 0, "b1g2");
        check.bag(x, 1, "r1b2");
        check.bag(x, 2, "g1r2");
        check.due("settle()", x.settle(), 3);
        check.bag(x, 0, "r2r1");
        check.bag(x, 1, "g2g1");
        check.bag(x, 2, "b2b1");
        check.due("total(8)", x.total(8), 6);
        check.due("total(6)", x.total(6), 3);
        check.due("bestSwap(4)", x.bestSwap(4), NONE);
        check.due("settle() again", x.settle(), 0);
        check.due("undo()", x.undo(), 4);
        check.due("total(6)", x.total(6), 3);
        check.due("undo()", x.undo(), 3);
        check.due("total(6)", x.total(6), 0);
        check.bag(x, 0, "b1g2");
        check.bag(x, 1, "r1b2");
        check.bag(x, 2, "g1r2");
    }

    private static void settleByOne() {
        MarbleHeirs x = Check.machine("00 11");
        Check.pour(x, "b1r1b2b2r2b3");
        x.divide();
        check.bag(x, 0, "b1b2r2");
        check.bag(x, 1, "r1b2b3");
        check.due("settle() by a growth of 1", x.settle(), 1);
        check.bag(x, 0, "r1b2r2");
        check.bag(x, 1, "b1b2b3");
        check.due("total(8)", x.total(8), 2);
    }

    private static void settleWithVetoes() {
        MarbleHeirs x = Check.machine("00 11");
        Check.pour(x, "g9r1");
        x.divide();
        check.due("settle() that a mother would veto", x.settle(), 0);
        check.due("vetoes(0)", x.vetoes(0), 2);
        check.due("total(7)", x.total(7), 0);
        x.grant(0, 0);
        check.due("settle() without vetoes", x.settle(), 1);
        check.bag(x, 0, "r1");
        check.due("total(7)", x.total(7), 0);
    }
}
