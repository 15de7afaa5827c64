/** Promises 13 to 18: what there is. */
public final class ReadingsTest {
    private static final int NO_SUCH = MarbleHeirs.NO_SUCH;
    private static final int BAD_VALUE = MarbleHeirs.BAD_VALUE;
    private static final int LEAST = Integer.MIN_VALUE;
    private static final int MOST = Integer.MAX_VALUE;

    private static final Check check = new Check("ReadingsTest");

    public static void main(String[] args) {
        heir();
        bag();
        hopper();
        vetoes();
        at();
        total();
        totalOfSixHeirs();
        totalOfHeirsWithoutMarbles();
        nothingIsRecorded();
        check.end();
    }

    /** Bags: 0 has b1 r7 (wishes b), 1 has b2 b4 k8 (wishes b), 2 has y3 g5 (wishes k). */
    private static MarbleHeirs example() {
        MarbleHeirs x = Check.machine("32 12 05");
        Check.pour(x, "b1b2y3b4g5r7k8w6w2");
        x.setRule(2);
        x.round();
        x.round();
        x.setRule(0);
        x.leave(x.come(0, 0));
        x.setRule(2);
        check.bag(x, 0, "b1r7");
        check.bag(x, 1, "b2b4");
        check.bag(x, 2, "y3g5");
        check.hopper(x, "k8w6w2");
        return x;
    }

    private static void heir() {
        check.topic("promise 13");
        MarbleHeirs x = example();
        int[][] due = {{3, 2, 2, 8, 1, 1}, {1, 2, 2, 6, 2, 2}, {0, 5, 2, 8, 0, 0}};
        for (int heir = 0; heir < 3; heir++) {
            for (int part = 0; part < 6; part++) {
                check.due("heir(" + heir + ", " + part + ")", x.heir(heir, part), due[heir][part]);
            }
            for (int wrong : new int[] {-1, 6, LEAST, MOST}) {
                check.due("heir(" + heir + ", " + wrong + ")", x.heir(heir, wrong), BAD_VALUE);
            }
        }
        for (int wrong : new int[] {-1, 3, 6, 7, LEAST, MOST}) {
            check.due("heir(" + wrong + ", 0)", x.heir(wrong, 0), NO_SUCH);
            check.due("heir(" + wrong + ", 6)", x.heir(wrong, 6), NO_SUCH);
        }
    }

    private static void bag() {
        check.topic("promise 14");
        MarbleHeirs x = example();
        check.due("bag(0, 0, 0)", x.bag(0, 0, 0), 2);
        check.due("bag(0, 0, 1)", x.bag(0, 0, 1), 1);
        check.due("bag(0, 1, 0)", x.bag(0, 1, 0), 0);
        check.due("bag(0, 1, 1)", x.bag(0, 1, 1), 7);
        check.due("bag(2, 1, 0)", x.bag(2, 1, 0), 1);
        check.due("bag(2, 1, 1)", x.bag(2, 1, 1), 5);
        for (int wrong : new int[] {-1, 2, LEAST, MOST}) {
            check.due("bag(0, " + wrong + ", 0)", x.bag(0, wrong, 0), NO_SUCH);
            check.due("bag(0, " + wrong + ", 2)", x.bag(0, wrong, 2), NO_SUCH);
            check.due("bag(0, 0, " + wrong + ")", x.bag(0, 0, wrong), BAD_VALUE);
        }
        for (int wrong : new int[] {-1, 3, 6, 7, LEAST, MOST}) {
            check.due("bag(" + wrong + ", 0, 0)", x.bag(wrong, 0, 0), NO_SUCH);
            check.due("bag(" + wrong + ", 0, 2)", x.bag(wrong, 0, 2), NO_SUCH);
        }
    }

    private static void hopper() {
        check.topic("promise 15");
        MarbleHeirs x = example();
        check.due("hopper(0, 0)", x.hopper(0, 0), 5);
        check.due("hopper(0, 1)", x.hopper(0, 1), 8);
        check.due("hopper(2, 0)", x.hopper(2, 0), 4);
        check.due("hopper(2, 1)", x.hopper(2, 1), 2);
        for (int wrong : new int[] {-1, 2, LEAST, MOST}) {
            check.due("hopper(0, " + wrong + ")", x.hopper(0, wrong), BAD_VALUE);
        }
        for (int wrong : new int[] {-1, 3, LEAST, MOST}) {
            check.due("hopper(" + wrong + ", 0)", x.hopper(wrong, 0), NO_SUCH);
            check.due("hopper(" + wrong + ", 2)", x.hopper(wrong, 2), NO_SUCH);
        }
    }

    private static void vetoes() {
        check.topic("promise 16");
        MarbleHeirs x = new MarbleHeirs();
        x.grant(1, 9);
        x.grant(3, 0);
        int[] due = {2, 9, 2, 0};
        for (int mother = 0; mother < 4; mother++) {
            check.due("vetoes(" + mother + ")", x.vetoes(mother), due[mother]);
        }
        for (int wrong : new int[] {-1, 4, LEAST, MOST}) {
            check.due("vetoes(" + wrong + ")", x.vetoes(wrong), NO_SUCH);
        }
    }

    private static void at() {
        check.topic("promise 17");
        MarbleHeirs x = example();
        check.order(x, 2, 0, 1);
        for (int wrong : new int[] {-1, 3, 6, 7, LEAST, MOST}) {
            check.due("at(" + wrong + ")", x.at(wrong), NO_SUCH);
        }
    }

    private static void total() {
        check.topic("promise 18");
        MarbleHeirs x = example();
        x.swap(0, 0, 1, 0);
        x.swap(0, 1, 2, 0);
        x.setPatience(7);
        x.setRule(0);
        x.round();
        x.setRule(1);
        x.drop(0, 4);
        // Behind this round: 0 has b2 r7 w6, 1 has b1 b4 w2, 2 has y3 g5 k8, the hopper has r4.
        int[] due = {3, 1, 9, 4, 38, 3, 1, 1, 4, 0, 9, 1, 7};
        for (int what = 0; what < due.length; what++) {
            check.due("total(" + what + ")", x.total(what), due[what]);
        }
        x.round();
        // The poorest heir, 1, has got r4: 15, 11 and 16.
        check.due("total(2)", x.total(2), 10);
        check.due("total(9)", x.total(9), 1);
        check.due("total(10)", x.total(10), 5);
        for (int wrong : new int[] {-1, 13, LEAST, MOST}) {
            check.due("total(" + wrong + ")", x.total(wrong), BAD_VALUE);
        }
    }

    private static void totalOfSixHeirs() {
        MarbleHeirs x = Check.machine("00 11 22 33 04 15");
        Check.pour(x, "r1r2r3r4r5k6r7r8");
        x.round();
        int[] due = {6, 2, 6, 15, 21, 1, 0, 0, 2, 0, 5, 0, 2};
        for (int what = 0; what < due.length; what++) {
            check.due("total(" + what + ") of six", x.total(what), due[what]);
        }
    }

    private static void totalOfHeirsWithoutMarbles() {
        MarbleHeirs x = Check.machine("00 11 22");
        check.due("total(9) of empty bags", x.total(9), 0);
        check.due("total(10) of empty bags", x.total(10), 0);
        Check.pour(x, "r7");
        x.round();
        check.due("total(9)", x.total(9), 1);
        check.due("total(10)", x.total(10), 7);
        MarbleHeirs one = Check.machine("00");
        Check.pour(one, "3r7");
        one.divide();
        check.due("total(9) of one heir", one.total(9), 0);
        check.due("total(10) of one heir", one.total(10), 0);
        one.leave(0);
        check.due("total(9) without heirs", one.total(9), 0);
        check.due("total(10) without heirs", one.total(10), 0);
        check.due("total(5) behind leave", one.total(5), 3);
    }

    private static void nothingIsRecorded() {
        MarbleHeirs x = Check.machine("00 11");
        x.heir(0, 0);
        x.bag(0, 0, 0);
        x.hopper(0, 0);
        x.vetoes(0);
        x.at(0);
        x.total(0);
        check.due("undo() behind readings", x.undo(), 1);
    }
}
