/** Promises 19 to 22: predictions, which change nothing. */
public final class PredictionsTest {
    private static final int NO_SUCH = MarbleHeirs.NO_SUCH;
    private static final int BAD_VALUE = MarbleHeirs.BAD_VALUE;
    private static final int NONE = MarbleHeirs.NONE;
    private static final int LEAST = Integer.MIN_VALUE;
    private static final int MOST = Integer.MAX_VALUE;

    private static final Check check = new Check("PredictionsTest");

    public static void main(String[] args) {
        ifDivided();
        fairestRule();
        whoVetoes();
        bestSwapErrors();
        bestSwap();
        bestSwapTies();
        bestSwapOfSix();
        bestSwapAndVetoes();
        check.end();
    }

    private static void ifDivided() {
        check.topic("promise 19");
        MarbleHeirs x = Check.machine("00 11 22");
        Check.pour(x, "r1b9r4r2g8b7k3b5");
        int[][] due = {{3, 13, 1}, {2, 11, 0}, {3, 15, 0}};
        for (int heir = 0; heir < 3; heir++) {
            for (int part = 0; part < 3; part++) {
                String call = "ifDivided(" + heir + ", " + part + ")";
                check.due(call, x.ifDivided(heir, part), due[heir][part]);
            }
            for (int wrong : new int[] {-1, 3, LEAST, MOST}) {
                check.due("ifDivided(" + heir + ", " + wrong + ")",
                        x.ifDivided(heir, wrong), BAD_VALUE);
            }
        }
        for (int wrong : new int[] {-1, 3, 6, LEAST, MOST}) {
            check.due("ifDivided(" + wrong + ", 0)", x.ifDivided(wrong, 0), NO_SUCH);
            check.due("ifDivided(" + wrong + ", 3)", x.ifDivided(wrong, 3), NO_SUCH);
        }
        check.hopper(x, "r1b9r4r2g8b7k3b5");
        check.order(x, 0, 1, 2);
        check.due("total(5)", x.total(5), 0);
        check.due("undo()", x.undo(), 3);
        x.setRule(2);
        check.due("undo()", x.undo(), 3);
        Check.pour(x, "r1b9r4r2g8b7k3b5");
        x.setRule(2);
        check.due("ifDivided(0, 0) by rule 2", x.ifDivided(0, 0), 2);
        check.due("ifDivided(1, 0) by rule 2", x.ifDivided(1, 0), 2);
        x.setRule(1);
        // Behind two rounds: 0 has r1 b7, 1 has b9 r2, 2 has r4 g8; 0 and 1 are the poorest.
        check.due("ifDivided(0, 1) by rule 1", x.ifDivided(0, 1), 11);
        check.due("ifDivided(1, 1) by rule 1", x.ifDivided(1, 1), 16);
        check.due("ifDivided(2, 1) by rule 1", x.ifDivided(2, 1), 12);
        x.divide();
        check.due("heir(0, 3)", x.heir(0, 3), 11);
        check.due("ifDivided(0, 1) with nothing to divide", x.ifDivided(0, 1), 11);
    }

    private static void fairestRule() {
        check.topic("promise 20");
        MarbleHeirs none = new MarbleHeirs();
        none.drop(0, 1);
        check.due("fairestRule() without heirs", none.fairestRule(), NONE);
        check.due("without odd ones", fairest("r1r9", 2), 0);
        check.due("rule 0 as fair as rule 1", fairest("r9r5r4", 1), 0);
        check.due("rule 1 the fairest", fairest("r5r9r4", 0), 1);
        check.due("rule 1 as fair as rule 2", fairest("r1r9r8r8r8r8", 0), 0);
        check.due("rule 2 the fairest", fairest("r5r5r4", 0), 2);
        check.due("rule 1 and 2 fairer than 0", fairest("r5r7r4", 2), 1);

        MarbleHeirs x = Check.machine("00 11");
        Check.pour(x, "r5r5r4");
        x.setRule(1);
        check.due("fairestRule()", x.fairestRule(), 2);
        check.due("total(11)", x.total(11), 1);
        check.hopper(x, "r5r5r4");
        check.due("total(5)", x.total(5), 0);
        check.due("undo()", x.undo(), 3);
        check.due("total(11)", x.total(11), 0);
    }

    private static int fairest(String marbles, int rule) {
        MarbleHeirs x = Check.machine("00 11");
        Check.pour(x, marbles);
        x.setRule(rule);
        return x.fairestRule();
    }

    private static void whoVetoes() {
        check.topic("promise 21");
        // Bags: heir 0 (mother 2) has r9 r5 r3, heir 1 (mother 1) has g1 g3 g6.
        MarbleHeirs x = Check.machine("20 11");
        Check.pour(x, "r9g1g3r5r3g6");
        x.divide();
        check.due("whoVetoes(0, 1, 1, 1)", x.whoVetoes(0, 1, 1, 1), NONE);
        check.due("whoVetoes(0, 0, 1, 2)", x.whoVetoes(0, 0, 1, 2), 2);
        check.due("whoVetoes(1, 2, 0, 0)", x.whoVetoes(1, 2, 0, 0), 2);
        check.due("whoVetoes(0, 2, 1, 2)", x.whoVetoes(0, 2, 1, 2), 1);
        check.due("whoVetoes(1, 2, 0, 2)", x.whoVetoes(1, 2, 0, 2), 1);
        check.due("whoVetoes(0, 0, 0, 1)", x.whoVetoes(0, 0, 0, 1), BAD_VALUE);
        check.due("whoVetoes(0, 0, 0, 3)", x.whoVetoes(0, 0, 0, 3), NO_SUCH);
        check.due("whoVetoes(0, 3, 1, 0)", x.whoVetoes(0, 3, 1, 0), NO_SUCH);
        check.due("whoVetoes(2, 0, 1, 0)", x.whoVetoes(2, 0, 1, 0), NO_SUCH);
        check.due("vetoes(2)", x.vetoes(2), 2);
        check.due("vetoes(1)", x.vetoes(1), 2);
        check.due("total(6)", x.total(6), 0);
        check.due("total(7)", x.total(7), 0);
        check.bag(x, 0, "r9r5r3");
        x.grant(2, 0);
        check.due("whoVetoes(0, 0, 1, 2) without vetoes", x.whoVetoes(0, 0, 1, 2), NONE);
        check.due("undo()", x.undo(), 4);
        check.due("undo()", x.undo(), 3);
        check.due("total(2)", x.total(2), 0);
    }

    private static void best(MarbleHeirs x, int... due) {
        for (int part = 0; part < due.length; part++) {
            check.due("bestSwap(" + part + ")", x.bestSwap(part), due[part]);
        }
    }

    /** Two heirs, who wish r and g, with these marbles, the first one's first. */
    private static MarbleHeirs two(String first, String second) {
        MarbleHeirs x = Check.machine("00 11");
        for (int i = 0; i < Math.max(first.length(), second.length()); i += 2) {
            // The order turns with each round.
            boolean turned = i % 4 == 2;
            Check.pour(x, (turned ? second : first).substring(i, i + 2));
            Check.pour(x, (turned ? first : second).substring(i, i + 2));
            x.round();
        }
        check.bag(x, 0, first);
        check.bag(x, 1, second);
        return x;
    }

    private static void bestSwapErrors() {
        check.topic("promise 22");
        MarbleHeirs x = new MarbleHeirs();
        for (int wrong : new int[] {-1, 5, LEAST, MOST}) {
            check.due("bestSwap(" + wrong + ")", x.bestSwap(wrong), BAD_VALUE);
        }
        best(x, NONE, NONE, NONE, NONE, NONE);
        best(two("r1r1", "g1g1"), NONE, NONE, NONE, NONE, NONE);
        best(two("b1y1", "w1k1"), NONE, NONE, NONE, NONE, NONE);
        check.due("bestSwap(5) without a swap", two("b1", "w1").bestSwap(5), BAD_VALUE);
        // A wished marble against another wished one gains nothing, nor does one wish of both.
        best(two("r1", "r1"), NONE, NONE, NONE, NONE, NONE);
        MarbleHeirs same = two("r1", "g1");
        same.wish(1, 0);
        best(same, NONE, NONE, NONE, NONE, NONE);
    }

    private static void bestSwap() {
        best(two("b1", "r1"), 0, 0, 1, 0, 1);
        best(two("g1", "b1"), 0, 0, 1, 0, 1);
        best(two("g1", "r1"), 0, 0, 1, 0, 2);
        // A growth of 2 goes ahead of a less difference.
        best(two("b3g3", "r5b3"), 0, 1, 1, 0, 2);
        // A less difference goes ahead of lower places.
        best(two("b5b4b3", "r1r2r3"), 0, 2, 1, 2, 1);
        // The difference has no sign.
        best(two("b3b6", "r5r4"), 0, 0, 1, 1, 1);
        MarbleHeirs x = two("g1", "r1");
        int vetoes = x.vetoes(0);
        best(x, 0, 0, 1, 0, 2);
        check.bag(x, 0, "g1");
        check.due("total(6)", x.total(6), 0);
        check.due("vetoes(0)", x.vetoes(0), vetoes);
        check.due("undo()", x.undo(), 4);
    }

    private static void bestSwapTies() {
        // Places: the first heir's goes ahead of the second's.
        best(two("b1g1g1", "w1r1r1"), 0, 1, 1, 1, 2);
        best(two("b1b2b1", "b3r2r1"), 0, 0, 1, 2, 1);
        best(two("b2b1b1", "b3r1r2"), 0, 0, 1, 2, 1);
        // Heirs: the lowest first one, then his lowest place, then the lowest second one.
        MarbleHeirs x = Check.machine("00 11 22");
        Check.pour(x, "w1w1r1b1w1w1");
        x.divide();
        check.bag(x, 0, "w1w1");
        check.bag(x, 1, "w1b1");
        check.bag(x, 2, "r1w1");
        best(x, 0, 0, 2, 0, 1);
        x.wish(0, 2);
        best(x, 0, 0, 1, 1, 1);
        x.wish(0, 5);
        best(x, 1, 1, 2, 0, 1);
        MarbleHeirs y = Check.machine("00 11 22 33");
        Check.pour(y, "b1k1k1r1w1w1g1w1");
        y.divide();
        check.bag(y, 0, "b1w1");
        check.bag(y, 1, "k1w1");
        check.bag(y, 2, "k1w1");
        check.bag(y, 3, "r1g1");
        best(y, 0, 0, 2, 0, 1);
        y.wish(2, 5);
        y.wish(0, 5);
        best(y, 0, 0, 1, 0, 1);
        y.wish(0, 3);
        best(y, 1, 0, 2, 1, 1);
    }

    private static void bestSwapOfSix() {
        MarbleHeirs x = Check.machine("03 13 23 33 04 15");
        Check.pour(x, "w1w1w1w1k3w4r5k5");
        x.round();
        best(x, 4, 0, 5, 0, 2);
        x.wish(5, 3);
        best(x, 4, 0, 5, 0, 1);
        x.wish(4, 3);
        best(x, NONE, NONE, NONE, NONE, NONE);
    }

    private static void bestSwapAndVetoes() {
        // The swap of 2 would be vetoed; the one with patience stays.
        best(two("g9b1", "r1r3"), 0, 1, 1, 0, 1);
        best(two("b1b9", "r4r6"), NONE, NONE, NONE, NONE, NONE);
        MarbleHeirs x = two("b1b9", "r4r6");
        x.setPatience(3);
        best(x, 0, 0, 1, 0, 1);
        x.setPatience(2);
        x.grant(1, 0);
        best(x, 0, 0, 1, 0, 1);
        x.grant(1, 1);
        x.grant(0, 0);
        best(x, 0, 1, 1, 1, 1);
    }
}
