/** Promises 1 to 7: a new object, heirs and settings. */
public final class HeirsTest {
    private static final int NO_SUCH = MarbleHeirs.NO_SUCH;
    private static final int BAD_VALUE = MarbleHeirs.BAD_VALUE;
    private static final int NOT_POSSIBLE = MarbleHeirs.NOT_POSSIBLE;
    private static final int LIMIT = MarbleHeirs.LIMIT;
    private static final int NONE = MarbleHeirs.NONE;
    private static final int LEAST = Integer.MIN_VALUE;
    private static final int MOST = Integer.MAX_VALUE;

    private static final Check check = new Check("HeirsTest");

    public static void main(String[] args) {
        newObject();
        objectsAreApart();
        come();
        leave();
        leaveTurnsTheOrder();
        leaveOfSix();
        leaveAtTheLimit();
        leaveOfAFullMachine();
        wish();
        setRule();
        setPatience();
        grant();
        check.end();
    }

    private static void newObject() {
        check.topic("promise 1");
        MarbleHeirs x = new MarbleHeirs();
        for (int what = 0; what <= 11; what++) {
            check.due("total(" + what + ")", x.total(what), 0);
        }
        check.due("total(12)", x.total(12), 2);
        for (int mother = 0; mother < 4; mother++) {
            check.due("vetoes(" + mother + ")", x.vetoes(mother), 2);
        }
        check.due("heir(0, 0)", x.heir(0, 0), NO_SUCH);
        check.due("at(0)", x.at(0), NO_SUCH);
        check.due("hopper(0, 0)", x.hopper(0, 0), NO_SUCH);
        check.due("bag(0, 0, 0)", x.bag(0, 0, 0), NO_SUCH);
        check.due("undo()", x.undo(), NOT_POSSIBLE);
        check.due("restore()", x.restore(), NOT_POSSIBLE);
        check.due("errorPosition()", x.errorPosition(), 0);
        check.due("clearText()", x.clearText(), 0);
        check.due("bestSwap(0)", x.bestSwap(0), NONE);
    }

    private static void objectsAreApart() {
        MarbleHeirs x = Check.machine("01 12");
        MarbleHeirs y = new MarbleHeirs();
        x.drop(1, 1);
        x.save();
        x.append('r');
        check.due("total(0) of another", y.total(0), 0);
        check.due("total(1) of another", y.total(1), 0);
        check.due("restore() of another", y.restore(), NOT_POSSIBLE);
        check.due("undo() of another", y.undo(), NOT_POSSIBLE);
        check.due("clearText() of another", y.clearText(), 0);
    }

    private static void come() {
        check.topic("promise 2");
        MarbleHeirs x = new MarbleHeirs();
        for (int wrong : new int[] {-1, 4, LEAST, MOST}) {
            check.due("come(" + wrong + ", 0)", x.come(wrong, 0), NO_SUCH);
            check.due("come(" + wrong + ", 6)", x.come(wrong, 6), NO_SUCH);
        }
        for (int wrong : new int[] {-1, 6, LEAST, MOST}) {
            check.due("come(0, " + wrong + ")", x.come(0, wrong), BAD_VALUE);
        }
        check.due("total(0) behind errors", x.total(0), 0);
        check.due("undo() behind errors", x.undo(), NOT_POSSIBLE);
        int[] mothers = {0, 3, 1, 2, 3, 0};
        for (int heir = 0; heir < 6; heir++) {
            check.due("come", x.come(mothers[heir], 5 - heir), heir);
        }
        for (int heir = 0; heir < 6; heir++) {
            check.due("mother of " + heir, x.heir(heir, 0), mothers[heir]);
            check.due("wish of " + heir, x.heir(heir, 1), 5 - heir);
            check.due("marbles of " + heir, x.heir(heir, 2), 0);
        }
        check.order(x, 0, 1, 2, 3, 4, 5);
        check.due("come(4, 0) as the seventh", x.come(4, 0), NO_SUCH);
        check.due("come(3, 6) as the seventh", x.come(3, 6), BAD_VALUE);
        check.due("come(3, 5) as the seventh", x.come(3, 5), LIMIT);
        check.due("recorded", Check.recorded(x), 5);
        check.due("total(0) behind five undos", x.total(0), 1);

        MarbleHeirs y = Check.machine("00 11");
        Check.pour(y, "r1r1");
        y.round();
        check.due("come behind a round", y.come(2, 2), 2);
        check.order(y, 1, 0, 2);
    }

    private static void leave() {
        check.topic("promise 3");
        MarbleHeirs x = Check.machine("00 11 22 33");
        Check.pour(x, "r1g2b3y4w5k6r7g8y9");
        x.round();
        x.round();
        check.hopper(x, "y9");
        for (int wrong : new int[] {-1, 4, 5, 6, LEAST, MOST}) {
            check.due("leave(" + wrong + ")", x.leave(wrong), NO_SUCH);
        }
        check.bag(x, 0, "r1g8");
        check.bag(x, 1, "g2w5");
        check.due("leave(1)", x.leave(1), 2);
        check.hopper(x, "y9g2w5");
        check.bag(x, 0, "r1g8");
        check.bag(x, 1, "b3k6");
        check.bag(x, 2, "y4r7");
        check.due("bag(3, 0, 0)", x.bag(3, 0, 0), NO_SUCH);
        check.due("mother of 1", x.heir(1, 0), 2);
        check.due("wish of 1", x.heir(1, 1), 2);
        check.due("mother of 2", x.heir(2, 0), 3);
        check.due("wish of 2", x.heir(2, 1), 3);
        check.due("total(0)", x.total(0), 3);
        check.due("undo()", x.undo(), 4);
        check.bag(x, 1, "g2w5");
        check.hopper(x, "y9");
        check.due("leave(3)", x.leave(3), 2);
        check.hopper(x, "y9y4r7");
        check.due("leave(0)", x.leave(0), 2);
        check.due("leave(0)", x.leave(0), 2);
        check.due("leave(0)", x.leave(0), 2);
        check.hopper(x, "y9y4r7r1g8g2w5b3k6");
        check.due("leave(0) of none", x.leave(0), NO_SUCH);
        check.due("come again", x.come(1, 1), 0);
        check.due("marbles of the new heir", x.heir(0, 2), 0);
    }

    private static void leaveTurnsTheOrder() {
        MarbleHeirs x = Check.machine("00 01 02 03");
        Check.pour(x, "4r14r1");
        x.divide();
        check.order(x, 2, 3, 0, 1);
        x.leave(0);
        check.order(x, 1, 2, 0);
        x.come(0, 0);
        check.order(x, 1, 2, 0, 3);
        x.leave(1);
        check.order(x, 1, 0, 2);
        x.leave(2);
        check.order(x, 1, 0);
    }

    private static void leaveOfSix() {
        MarbleHeirs x = Check.machine("00 11 22 33 04 15");
        Check.pour(x, "r1g2b3y4w5k6r7g8b9y1w2k3r4");
        x.round();
        x.round();
        check.due("leave(5)", x.leave(5), 2);
        check.hopper(x, "r4k6w2");
        check.bag(x, 4, "w5y1");
        check.bag(x, 0, "r1k3");
        check.order(x, 2, 3, 4, 0, 1);
        x.undo();
        check.bag(x, 5, "k6w2");
        check.due("leave(0)", x.leave(0), 2);
        check.hopper(x, "r4r1k3");
        check.bag(x, 0, "g2r7");
        check.bag(x, 4, "k6w2");
        check.order(x, 1, 2, 3, 4, 0);
        check.due("heir(4, 0)", x.heir(4, 0), 1);
        check.due("heir(4, 1)", x.heir(4, 1), 5);
        check.due("come again", x.come(3, 3), 5);
        check.due("marbles of the new heir", x.heir(5, 2), 0);
        check.hopper(x, "r4r1k3");
    }

    private static void leaveOfAFullMachine() {
        MarbleHeirs x = Check.machine("00 11 22");
        for (int i = 0; i < 3; i++) {
            Check.pour(x, "9r19g19b19y14w1");
            x.divide();
        }
        check.due("total(2)", x.total(2), 120);
        check.due("leave(1) of 120", x.leave(1), 40);
        check.due("hopper(39, 0)", x.hopper(39, 0), 4);
        check.due("hopper(40, 0)", x.hopper(40, 0), NO_SUCH);
        check.due("drop of the 121st", x.drop(0, 1), LIMIT);
        check.due("leave(0) with 40 in the hopper", x.leave(0), LIMIT);
    }

    private static void leaveAtTheLimit() {
        MarbleHeirs x = Check.machine("00 11");
        Check.pour(x, "2r1");
        x.round();
        Check.pour(x, "9g19g19g19g13g1");
        check.due("leave(0) with 39 in the hopper", x.leave(0), 1);
        check.due("hopper then", x.total(1), 40);
        check.due("leave(0) with 40 in the hopper", x.leave(0), LIMIT);
        check.due("heirs then", x.total(0), 1);
        check.bag(x, 0, "r1");
        check.due("leave(1)", x.leave(1), NO_SUCH);
        x.come(0, 0);
        check.due("leave(1) without marbles", x.leave(1), 0);
    }

    private static void wish() {
        check.topic("promise 4");
        MarbleHeirs x = Check.machine("00 11");
        Check.pour(x, "r1g1r2g2b3g3");
        x.divide();
        for (int wrong : new int[] {-1, 2, LEAST, MOST}) {
            check.due("wish(" + wrong + ", 0)", x.wish(wrong, 0), NO_SUCH);
            check.due("wish(" + wrong + ", 6)", x.wish(wrong, 6), NO_SUCH);
        }
        for (int wrong : new int[] {-1, 6, LEAST, MOST}) {
            check.due("wish(0, " + wrong + ")", x.wish(0, wrong), BAD_VALUE);
        }
        check.bag(x, 0, "r1g2b3");
        check.bag(x, 1, "g1r2g3");
        check.due("undo()", x.undo(), 3);
        check.due("wish before", x.heir(0, 1), 0);
        x.divide();
        check.due("wish(1, 1)", x.wish(1, 1), 2);
        check.due("wish(1, 0)", x.wish(1, 0), 1);
        check.due("wish(1, 5)", x.wish(1, 5), 0);
        check.due("heir(1, 1)", x.heir(1, 1), 5);
        check.due("heir(0, 1)", x.heir(0, 1), 0);
        check.due("undo()", x.undo(), 4);
        check.due("heir(1, 1) behind undo", x.heir(1, 1), 0);
        check.due("wish that changes nothing", x.wish(1, 0), 1);
        check.due("undo() of it", x.undo(), 4);
    }

    private static void setRule() {
        check.topic("promise 5");
        MarbleHeirs x = new MarbleHeirs();
        for (int wrong : new int[] {-1, 3, LEAST, MOST}) {
            check.due("setRule(" + wrong + ")", x.setRule(wrong), BAD_VALUE);
        }
        check.due("undo()", x.undo(), NOT_POSSIBLE);
        check.due("setRule(2)", x.setRule(2), 0);
        check.due("setRule(1)", x.setRule(1), 2);
        check.due("setRule(1)", x.setRule(1), 1);
        check.due("total(11)", x.total(11), 1);
        check.due("undo()", x.undo(), 2);
        check.due("undo()", x.undo(), 1);
        check.due("total(11)", x.total(11), 2);
        check.due("setRule(0)", x.setRule(0), 2);
    }

    private static void setPatience() {
        check.topic("promise 6");
        MarbleHeirs x = new MarbleHeirs();
        for (int wrong : new int[] {-1, 9, LEAST, MOST}) {
            check.due("setPatience(" + wrong + ")", x.setPatience(wrong), BAD_VALUE);
        }
        check.due("undo()", x.undo(), NOT_POSSIBLE);
        check.due("setPatience(8)", x.setPatience(8), 2);
        check.due("setPatience(0)", x.setPatience(0), 8);
        check.due("total(12)", x.total(12), 0);
        check.due("undo()", x.undo(), 1);
        check.due("total(12)", x.total(12), 8);
    }

    private static void grant() {
        check.topic("promise 7");
        MarbleHeirs x = new MarbleHeirs();
        for (int wrong : new int[] {-1, 4, LEAST, MOST}) {
            check.due("grant(" + wrong + ", 0)", x.grant(wrong, 0), NO_SUCH);
            check.due("grant(" + wrong + ", 10)", x.grant(wrong, 10), NO_SUCH);
        }
        for (int wrong : new int[] {-1, 10, LEAST, MOST}) {
            check.due("grant(3, " + wrong + ")", x.grant(3, wrong), BAD_VALUE);
        }
        check.due("undo()", x.undo(), NOT_POSSIBLE);
        check.due("grant(3, 9)", x.grant(3, 9), 2);
        check.due("grant(3, 0)", x.grant(3, 0), 9);
        check.due("grant(0, 5)", x.grant(0, 5), 2);
        check.due("vetoes(0)", x.vetoes(0), 5);
        check.due("vetoes(1)", x.vetoes(1), 2);
        check.due("vetoes(2)", x.vetoes(2), 2);
        check.due("vetoes(3)", x.vetoes(3), 0);
        check.due("undo()", x.undo(), 2);
        check.due("undo()", x.undo(), 1);
        check.due("vetoes(0)", x.vetoes(0), 2);
        check.due("vetoes(3)", x.vetoes(3), 9);
        check.due("total(7): granted vetoes do not count", x.total(7), 0);
    }
}
