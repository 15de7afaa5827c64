/** The sentences of "What it is" and "Terms" that name a boundary, each with a test of its own. */
public final class TermsBoundariesTest {
    private static final int NO_SUCH = MarbleHeirs.NO_SUCH;
    private static final int BAD_VALUE = MarbleHeirs.BAD_VALUE;
    private static final int NOT_POSSIBLE = MarbleHeirs.NOT_POSSIBLE;
    private static final int LIMIT = MarbleHeirs.LIMIT;
    private static final int BAD_TEXT = MarbleHeirs.BAD_TEXT;
    private static final int NONE = MarbleHeirs.NONE;
    private static final String FORTY = "9r19g19b19y14w1";
    private static final String COLOURS = "rgbywk";

    private static final Check check = new Check("TermsBoundariesTest");

    public static void main(String[] args) {
        calls();
        manyCounts();
        noneIsNoErrorCode();
        everyMarble();
        hopperOfForty();
        orderOfTheHopper();
        orderOfABag();
        marblesAltogether();
        sixHeirs();
        numbersBehindLeave();
        orderBehindLeave();
        newHeirStandsAtTheEnd();
        motherAndWish();
        fullAndOddRounds();
        fullRounds();
        ruleAtTheBeginning();
        oddOnesInOrder();
        oddOnesForThePoorest();
        oddOnesForThePoorestBehindATurn();
        oddOnesStay();
        turnOfTheOrder();
        turnAroundAgain();
        roundThatGivesNothing();
        withoutHeirs();
        placesOfSwappedMarbles();
        lossAndPatience();
        patienceAtTheBeginning();
        vetoesAtTheBeginning();
        vetoesRunOut();
        oneMotherLosesAVeto();
        motherOfBoth();
        textsOfOneItem();
        numbersOfAnItem();
        textsThatGoWrong();
        textsThatBreakOff();
        fullBuffer();
        fiveStates();
        callsThatMakeNoDifference();
        errorsAreNotRecorded();
        stateIsWithoutTheBuffer();
        stateIsWithoutTheSavedState();
        stateIsWithoutTheRecordedStates();
        stateIsAllElse();
        check.end();
    }

    // ---- What it is

    private static void calls() {
        check.topic("an object is used for at most 512 calls");
        MarbleHeirs x = new MarbleHeirs();
        for (int call = 1; call <= 505; call++) {
            check.due("setPatience as call " + call, x.setPatience(call % 9),
                    call == 1 ? 2 : (call - 1) % 9);
        }
        for (int left = 4; left >= 0; left--) {
            check.due("undo", x.undo(), left);
        }
        check.due("undo as call 511", x.undo(), NOT_POSSIBLE);
        check.due("total(12) as call 512", x.total(12), 500 % 9);

        MarbleHeirs y = new MarbleHeirs();
        for (int call = 1; call <= 512; call += 2) {
            check.due("append as call " + call, y.append('r'), 1);
            check.due("clearText as call " + (call + 1), y.clearText(), 1);
        }

        // The last call may be the dearest one.
        int swaps = sixWith120().settle();
        check.holds("there are swaps to make", swaps > 20);
        MarbleHeirs z = sixWith120();
        for (int call = 6 + 3 * 17 + 1; call <= 511; call++) {
            check.due("total(2) as call " + call, z.total(2), 120);
        }
        check.due("settle as call 512", z.settle(), swaps);
    }

    /**
     * Made in 57 calls: a come for each heir, and three times 15 appends, pour and divide. The bags
     * have 19, 20, 21, 21, 20 and 19 marbles, since the first one of the four odd ones goes to the
     * next heir each time.
     */
    private static MarbleHeirs sixWith120() {
        MarbleHeirs x = Calls.machine("come 0 0; come 1 1; come 2 2; come 3 3; come 0 4; come 1 5");
        for (int i = 0; i < 3; i++) {
            Calls.play(x, "write " + FORTY + "; pour; divide");
        }
        return x;
    }

    private static void manyCounts() {
        check.topic("counts of 512 calls");
        MarbleHeirs x = Check.machine("00");
        Check.pour(x, FORTY);
        for (int times = 1; times <= 100; times++) {
            check.due("divide", x.divide(), 40);
            check.due("total(5)", x.total(5), 40 * times);
            check.due("leave", x.leave(0), 40);
            check.due("come", x.come(times % 4, 0), 0);
        }
        MarbleHeirs y = Check.machine("00 11");
        Check.pour(y, "r1g1");
        y.round();
        for (int times = 1; times <= 500; times++) {
            check.due("swap", y.swap(times % 2, 0, 1 - times % 2, 0), NONE);
        }
        check.due("total(6)", y.total(6), 500);
        MarbleHeirs z = Check.machine("00 11");
        Check.pour(z, "r9g1");
        z.round();
        for (int times = 0; times < 45; times++) {
            z.grant(0, 9);
            for (int veto = 8; veto >= 0; veto--) {
                check.due("swap", z.swap(0, 0, 1, 0), 0);
            }
        }
        check.due("total(7)", z.total(7), 405);
    }

    // ---- Return values

    private static void noneIsNoErrorCode() {
        check.topic("a method returns NONE only if no error code applies");
        MarbleHeirs x = new MarbleHeirs();
        check.due("bestSwap(-1)", x.bestSwap(-1), BAD_VALUE);
        check.due("bestSwap(5)", x.bestSwap(5), BAD_VALUE);
        check.due("bestSwap(4)", x.bestSwap(4), NONE);
        check.due("fairestRule()", x.fairestRule(), NONE);
        x = Calls.machine("come 0 0; come 1 1; write r1g1; pour; round");
        check.due("whoVetoes(0, 0, 0, 0)", x.whoVetoes(0, 0, 0, 0), BAD_VALUE);
        check.due("whoVetoes(0, 0, 1, 1)", x.whoVetoes(0, 0, 1, 1), NO_SUCH);
        check.due("whoVetoes(0, 0, 1, 0)", x.whoVetoes(0, 0, 1, 0), NONE);
        check.due("swap(0, 0, 1, 0)", x.swap(0, 0, 1, 0), NONE);
    }

    // ---- Marbles

    private static void everyMarble() {
        check.topic("a marble has a colour, 0 to 5, and a value, 1 to 9");
        for (int colour = 0; colour <= 5; colour++) {
            MarbleHeirs x = Check.machine("00");
            for (int value = 1; value <= 9; value++) {
                check.due("drop", x.drop(colour, value), value);
            }
            for (int value = 1; value <= 9; value++) {
                check.due("hopper(.., 0)", x.hopper(value - 1, 0), colour);
                check.due("hopper(.., 1)", x.hopper(value - 1, 1), value);
            }
            x.divide();
            for (int value = 1; value <= 9; value++) {
                check.due("bag(0, .., 0)", x.bag(0, value - 1, 0), colour);
                check.due("bag(0, .., 1)", x.bag(0, value - 1, 1), value);
            }
            check.due("heir(0, 3)", x.heir(0, 3), 45);
        }
    }

    private static void hopperOfForty() {
        check.topic("the hopper has at most 40 marbles");
        MarbleHeirs x = Calls.machine("write 9r19g19b19y13w1; pour");
        check.due("drop as the 40th", x.drop(0, 1), 40);
        check.due("drop as the 41st", x.drop(0, 1), LIMIT);
        x = Calls.machine("write 9r19g19b19y13w1; pour; write r1");
        check.due("pour as the 40th", x.pour(), 40);
        x = Calls.machine("write 9r19g19b19y13w1; pour; write 2r1");
        check.due("pour as the 40th and 41st", x.pour(), LIMIT);
        x = Calls.machine("come 0 0; write r1; pour; divide; write 9r19g19b19y13w1; pour");
        check.due("leave as the 40th", x.leave(0), 1);
        check.due("total(1)", x.total(1), 40);
        x = Calls.machine("come 0 0; write 2r1; pour; divide; write 9r19g19b19y13w1; pour");
        check.due("leave as the 40th and 41st", x.leave(0), LIMIT);
        check.due("total(1)", x.total(1), 39);
        x = Calls.machine("come 0 0; write " + FORTY + "; pour; divide");
        check.due("leave with 40 to an empty hopper", x.leave(0), 40);
        x = Calls.machine("come 0 0; write " + FORTY + "; pour; divide; drop 0 1; divide");
        check.due("leave with 41 to an empty hopper", x.leave(0), LIMIT);
        check.due("heir(0, 2)", x.heir(0, 2), 41);
        x = Calls.machine("write " + FORTY + "; pour; come 0 0");
        check.due("leave with none to a full hopper", x.leave(0), 0);
    }

    private static void orderOfTheHopper() {
        check.topic("in the order in which they came into it");
        MarbleHeirs x = Calls.machine("come 0 0; come 1 1; write r1g2; pour; round; drop 5 9;"
                + " write 2b3y4; pour; drop 4 5; leave 1; leave 0; drop 0 6");
        check.hopper(x, "k9b3b3y4w5g2r1r6");
        x.come(0, 0);
        x.round();
        check.hopper(x, "b3b3y4w5g2r1r6");
        check.bag(x, 0, "k9");
    }

    private static void orderOfABag() {
        check.topic("a bag has its marbles in the order in which they came");
        MarbleHeirs x = Calls.machine("come 0 0; come 1 1; write r1g2b3y4; pour; round; round;"
                + " drop 4 5; round; drop 5 6; round");
        // The order stands 0 1, then 1 0, then 0 1 and 1 0 for the odd ones.
        check.bag(x, 0, "r1y4w5");
        check.bag(x, 1, "g2b3k6");
    }

    private static void marblesAltogether() {
        check.topic("in the hopper and in all bags together there are at most 120 marbles");
        MarbleHeirs x = sixWith120();
        check.due("total(2)", x.total(2), 120);
        check.due("drop as the 121st", x.drop(0, 1), LIMIT);
        Check.write(x, "r1");
        check.due("pour as the 121st", x.pour(), LIMIT);
        check.due("total(1)", x.total(1), 0);
        check.due("leave of 120", x.leave(0), 19);
        check.due("total(1)", x.total(1), 19);
        check.due("drop with 19 in the hopper and 101 in bags", x.drop(0, 1), LIMIT);
        check.due("pour with 19 in the hopper and 101 in bags", x.pour(), LIMIT);
        check.due("leave of 120", x.leave(0), 20);
        check.due("drop with 39 in the hopper and 81 in bags", x.drop(0, 1), LIMIT);
        check.due("leave with 39 in the hopper", x.leave(0), LIMIT);

        MarbleHeirs y = Calls.machine("come 0 0; come 1 1; write " + FORTY + "; pour; divide; write "
                + FORTY + "; pour; divide; write 9r19g19b19y12w1; pour; divide");
        check.due("total(2)", y.total(2), 118);
        check.due("drop as the 119th", y.drop(0, 1), 1);
        check.due("drop as the 120th", y.drop(0, 1), 2);
        check.due("drop as the 121st", y.drop(0, 1), LIMIT);
        y.undo();
        y.undo();
        Check.write(y, "3r1");
        check.due("pour as the 119th to 121st", y.pour(), LIMIT);
        Check.write(y, "2r1");
        check.due("pour as the 119th and 120th", y.pour(), 2);
        check.due("total(1)", y.total(1), 2);
        check.due("divide", y.divide(), 1);
        check.due("total(2)", y.total(2), 120);
        y.undo();
        y.undo();
        y.undo();
        check.due("total(2) behind undo of the division of 38", y.total(2), 80);
        check.due("total(1) behind it", y.total(1), 38);
    }

    // ---- Heirs

    private static void sixHeirs() {
        check.topic("there are at most 6 heirs, numbered from 0 in the order in which they came");
        MarbleHeirs x = new MarbleHeirs();
        for (int heir = 0; heir < 6; heir++) {
            check.due("come", x.come(heir % 4, heir), heir);
        }
        check.due("come as the seventh", x.come(0, 0), LIMIT);
        check.due("total(0)", x.total(0), 6);
        check.due("leave", x.leave(2), 0);
        check.due("come as the sixth again", x.come(3, 3), 5);
        check.due("come as the seventh again", x.come(3, 3), LIMIT);
        check.due("undo", x.undo(), 4);
        check.due("come as the sixth behind undo", x.come(2, 1), 5);
        check.due("heir(5, 0)", x.heir(5, 0), 2);
        check.due("heir(5, 1)", x.heir(5, 1), 1);
    }

    private static void numbersBehindLeave() {
        check.topic("when one leaves, the numbers of those behind become 1 less");
        for (int gone = 0; gone < 6; gone++) {
            MarbleHeirs x = Calls.machine("come 0 0; come 1 1; come 2 2; come 3 3; come 0 4;"
                    + " come 1 5; write r1g2b3y4w5k6; pour; round");
            check.due("leave(" + gone + ")", x.leave(gone), 1);
            for (int heir = 0; heir < 5; heir++) {
                int was = heir < gone ? heir : heir + 1;
                check.due("mother of " + was, x.heir(heir, 0), was % 4);
                check.due("wish of " + was, x.heir(heir, 1), was);
                check.bag(x, heir, "" + COLOURS.charAt(was) + (was + 1));
            }
            check.due("heir(5, 0)", x.heir(5, 0), NO_SUCH);
            check.hopper(x, "" + COLOURS.charAt(gone) + (gone + 1));
        }
    }

    private static void orderBehindLeave() {
        check.topic("the heirs stand in an order, which is another thing than their numbers");
        for (int turns = 0; turns < 6; turns++) {
            for (int gone = 0; gone < 6; gone++) {
                MarbleHeirs x = Check.machine("00 11 22 33 04 15");
                for (int turn = 0; turn < turns; turn++) {
                    x.drop(0, 1);
                    x.round();
                }
                x.leave(gone);
                int place = 0;
                for (int i = 0; i < 6; i++) {
                    int was = (turns + i) % 6;
                    if (was != gone) {
                        int heir = was < gone ? was : was - 1;
                        check.due("at(" + place + ")", x.at(place), heir);
                        check.due("heir(" + heir + ", 5)", x.heir(heir, 5), place);
                        place++;
                    }
                }
                check.due("at(5)", x.at(5), NO_SUCH);
            }
        }
    }

    private static void newHeirStandsAtTheEnd() {
        check.topic("a new heir stands at the end");
        MarbleHeirs x = Calls.machine("come 0 0; drop 0 1; round; come 0 0; drop 0 1; round");
        check.order(x, 1, 0);
        x.come(0, 0);
        check.order(x, 1, 0, 2);
        x.leave(0);
        check.order(x, 0, 1);
        x.come(0, 0);
        check.order(x, 0, 1, 2);
        check.due("heir(2, 5)", x.heir(2, 5), 2);
    }

    private static void motherAndWish() {
        check.topic("each has a mother, 0 to 3, and wishes for marbles of one colour");
        for (int mother = 0; mother <= 3; mother++) {
            for (int colour = 0; colour <= 5; colour++) {
                MarbleHeirs x = new MarbleHeirs();
                check.due("come", x.come(mother, colour), 0);
                check.due("heir(0, 0)", x.heir(0, 0), mother);
                check.due("heir(0, 1)", x.heir(0, 1), colour);
                Check.pour(x, "r1g1b1y1w1k1");
                x.divide();
                check.due("heir(0, 4)", x.heir(0, 4), 1);
            }
        }
    }

    // ---- Rounds

    /** So many heirs, and so many marbles of the value 1 in the hopper. */
    private static MarbleHeirs heirsAndMarbles(int heirs, int marbles) {
        MarbleHeirs x = new MarbleHeirs();
        for (int heir = 0; heir < heirs; heir++) {
            x.come(0, 0);
        }
        for (int i = 0; i < marbles; i++) {
            x.drop(1, 1);
        }
        return x;
    }

    private static void fullAndOddRounds() {
        check.topic("in a round with n heirs");
        for (int heirs = 1; heirs <= 6; heirs++) {
            for (int marbles = 0; marbles <= 8; marbles++) {
                for (int rule = 0; rule <= 2; rule++) {
                    MarbleHeirs x = heirsAndMarbles(heirs, marbles);
                    x.setRule(rule);
                    int given = marbles >= heirs ? heirs : rule == 2 ? 0 : marbles;
                    check.due(heirs + " heirs, " + marbles + " marbles, rule " + rule, x.round(),
                            given);
                    check.due("total(1)", x.total(1), marbles - given);
                    check.due("total(2)", x.total(2), given);
                    check.due("total(5)", x.total(5), given > 0 ? 1 : 0);
                    check.due("at(0)", x.at(0), given > 0 ? 1 % heirs : 0);
                    check.due("at(last)", x.at(heirs - 1), given > 0 ? 0 : heirs - 1);
                    for (int heir = 0; heir < heirs; heir++) {
                        check.due("heir(" + heir + ", 2)", x.heir(heir, 2), heir < given ? 1 : 0);
                    }
                }
            }
        }
    }

    private static void fullRounds() {
        check.topic("if there are at least n marbles in the hopper");
        for (int rule = 0; rule <= 2; rule++) {
            // As many as heirs: no odd ones, whatever the rule and the sums of values.
            MarbleHeirs x = Calls.machine("come 0 0; come 1 1; come 2 2; write r9g5b1; pour; round;"
                    + " write y3w2k1; pour; setRule " + rule);
            check.due("round", x.round(), 3);
            check.bag(x, 1, "g5y3");
            check.bag(x, 2, "b1w2");
            check.bag(x, 0, "r9k1");
            check.order(x, 2, 0, 1);
        }
    }

    private static void ruleAtTheBeginning() {
        check.topic("the odd rule is 0 at the beginning");
        MarbleHeirs x = Calls.machine("come 0 0; come 1 1; write r1g9b5; pour; round");
        check.due("total(11)", x.total(11), 0);
        // Heir 1 stands first now, heir 0 has the least sum.
        check.due("round", x.round(), 1);
        check.bag(x, 0, "r1");
        check.bag(x, 1, "g9b5");
    }

    private static void oddOnesInOrder() {
        check.topic("rule 0: in their order, as long as there are marbles");
        MarbleHeirs x = Calls.machine("come 0 0; come 1 1; come 2 2; write r1; pour");
        check.due("round of 1 for 3", x.round(), 1);
        check.bag(x, 0, "r1");
        check.order(x, 1, 2, 0);
        Check.pour(x, "g9b8");
        check.due("round of 2 for 3", x.round(), 2);
        check.bag(x, 1, "g9");
        check.bag(x, 2, "b8");
        check.order(x, 2, 0, 1);
        Check.pour(x, "y7w6");
        check.due("round of 2 for 3", x.round(), 2);
        check.bag(x, 2, "b8y7");
        check.bag(x, 0, "r1w6");
        check.order(x, 0, 1, 2);
        check.due("total(5)", x.total(5), 3);
    }

    private static void oddOnesForThePoorest() {
        check.topic("rule 1: to the heir with the least sum of values in the bag at this moment");
        MarbleHeirs x = Calls.machine("come 0 0; come 1 1; come 2 2; come 3 3; setRule 1;"
                + " write g5g2g2g4; pour; round; write k9k1k3; pour");
        // The order is 1 2 3 0 now. Of 1 and 2, both with 2, heir 1 stands first.
        check.due("round", x.round(), 3);
        check.bag(x, 1, "g2k9");
        check.bag(x, 2, "g2k1");
        check.bag(x, 3, "g4k3");
        check.bag(x, 0, "g5");
        check.order(x, 2, 3, 0, 1);
        // An empty bag has the sum 0; who got one in this round gets none again.
        x = Calls.machine("come 0 0; come 1 1; come 2 2; setRule 1; write r1g1; pour");
        check.due("round of 2 for 3", x.round(), 2);
        check.bag(x, 0, "r1");
        check.bag(x, 1, "g1");
        check.bag(x, 2, "");
        Check.pour(x, "b1y9");
        check.due("round of 2 for 3", x.round(), 2);
        check.bag(x, 2, "b1");
        check.bag(x, 1, "g1y9");
        check.bag(x, 0, "r1");
        check.order(x, 2, 0, 1);
    }

    private static void oddOnesForThePoorestBehindATurn() {
        check.topic("rule 1: of several the one who stands first");
        for (int turns = 0; turns < 6; turns++) {
            MarbleHeirs x = Check.machine("00 11 22 33 04 15");
            for (int turn = 0; turn < turns; turn++) {
                for (int i = 0; i < 6; i++) {
                    x.drop(5, 7);
                }
                x.round();
            }
            x.setRule(1);
            x.drop(0, 1);
            x.drop(1, 1);
            check.due("round", x.round(), 2);
            check.due("the first one has got the first", x.bag(turns % 6, turns, 0), 0);
            check.due("the second one has got the second", x.bag((turns + 1) % 6, turns, 0), 1);
            check.due("at(5)", x.at(5), turns);
        }
    }

    private static void oddOnesStay() {
        check.topic("rule 2: they stay in the hopper");
        MarbleHeirs x = Calls.machine("come 0 0; come 1 1; come 2 2; setRule 2; write r1g2b3y4w5;"
                + " pour");
        check.due("divide", x.divide(), 1);
        check.hopper(x, "y4w5");
        check.order(x, 1, 2, 0);
        check.due("round", x.round(), 0);
        check.hopper(x, "y4w5");
        check.order(x, 1, 2, 0);
        check.due("total(5)", x.total(5), 1);
        x.drop(5, 6);
        check.due("round with one more", x.round(), 3);
        check.bag(x, 1, "g2y4");
        check.bag(x, 2, "b3w5");
        check.bag(x, 0, "r1k6");
    }

    private static void turnOfTheOrder() {
        check.topic("the heir who stands first goes to the end of the order behind the round");
        MarbleHeirs x = heirsAndMarbles(6, 38);
        for (int turn = 0; turn <= 13; turn++) {
            for (int place = 0; place < 6; place++) {
                check.due("at(" + place + ") behind " + turn, x.at(place), (turn + place) % 6);
                check.due("its heir(.., 5)", x.heir((turn + place) % 6, 5), place);
            }
            // A wrap-around behind six full rounds; the seventh one gives odd ones.
            if (turn == 7) {
                Check.pour(x, FORTY);
            }
            check.due("round " + turn, x.round(), turn == 6 ? 2 : turn == 13 ? 4 : 6);
        }
        check.due("total(5)", x.total(5), 14);
    }

    private static void turnAroundAgain() {
        check.topic("the order of one heir and of two");
        MarbleHeirs x = heirsAndMarbles(1, 3);
        check.due("divide for one", x.divide(), 3);
        check.order(x, 0);
        check.due("total(5)", x.total(5), 3);
        MarbleHeirs y = heirsAndMarbles(2, 4);
        check.due("divide for two", y.divide(), 2);
        check.order(y, 0, 1);
        y.drop(0, 1);
        check.due("divide of an odd one", y.divide(), 1);
        check.order(y, 1, 0);
    }

    private static void roundThatGivesNothing() {
        check.topic("otherwise nothing is changed");
        for (int rule = 0; rule <= 2; rule++) {
            MarbleHeirs x = Calls.machine("come 0 0; come 1 1; come 2 2; write r1g2b3; pour; round;"
                    + " setRule " + rule);
            if (rule == 2) {
                Check.pour(x, "y4w5");
            }
            String ahead = Calls.readings(x);
            check.due("round", x.round(), 0);
            check.due("divide", x.divide(), 0);
            check.holds("nothing is changed", ahead.equals(Calls.readings(x)));
        }
    }

    private static void withoutHeirs() {
        check.topic("without heirs nothing is given");
        MarbleHeirs x = Calls.machine("come 0 0; drop 0 1; leave 0; drop 1 2");
        check.due("round", x.round(), NOT_POSSIBLE);
        check.due("divide", x.divide(), NOT_POSSIBLE);
        check.hopper(x, "r1g2");
        check.due("total(5)", x.total(5), 0);
        check.due("undo: nothing was recorded", x.undo(), 3);
    }

    // ---- Swaps

    private static void placesOfSwappedMarbles() {
        check.topic("each marble takes the place of the other one in the bag");
        String made = "come 0 0; come 1 1; write r1g2b3y4w5k6r7g8; pour; divide";
        // Bags: heir 0 r1 y4 w5 g8, heir 1 g2 b3 k6 r7.
        MarbleHeirs x = Calls.machine(made + "; setPatience 8");
        check.due("the first one of each", x.swap(0, 0, 1, 0), NONE);
        check.bag(x, 0, "g2y4w5g8");
        check.bag(x, 1, "r1b3k6r7");
        check.due("the last one of each", x.swap(0, 3, 1, 3), NONE);
        check.bag(x, 0, "g2y4w5r7");
        check.bag(x, 1, "r1b3k6g8");
        check.due("the first and the last one", x.swap(1, 3, 0, 0), NONE);
        check.bag(x, 0, "g8y4w5r7");
        check.bag(x, 1, "r1b3k6g2");
        check.due("total(6)", x.total(6), 3);
        MarbleHeirs y = sixWith120();
        y.setPatience(8);
        int first = y.bag(0, 0, 0) * 10 + y.bag(0, 0, 1);
        int last = y.bag(5, 18, 0) * 10 + y.bag(5, 18, 1);
        check.due("the first and the last one of 19", y.swap(0, 0, 5, 18), NONE);
        check.due("the last one, first", y.bag(0, 0, 0) * 10 + y.bag(0, 0, 1), last);
        check.due("the first one, last", y.bag(5, 18, 0) * 10 + y.bag(5, 18, 1), first);
        check.holds("they are different ones", first != last);
    }

    /** Mother 1's child has a marble of one value, mother 2's child one of another. */
    private static MarbleHeirs twoMarbles(int value, int other, int patience, int vetoes) {
        MarbleHeirs x = Check.machine("10 21");
        x.drop(0, value);
        x.drop(1, other);
        x.round();
        x.setPatience(patience);
        x.grant(1, vetoes);
        x.grant(2, vetoes);
        return x;
    }

    private static void lossAndPatience() {
        check.topic("a mother vetoes if the loss is greater than the patience, with a veto left");
        for (int value = 1; value <= 9; value++) {
            for (int other = 1; other <= 9; other++) {
                for (int patience = 0; patience <= 8; patience++) {
                    int due = value - other > patience ? 1 : other - value > patience ? 2 : NONE;
                    MarbleHeirs x = twoMarbles(value, other, patience, 1);
                    String said = value + " for " + other + ", patience " + patience;
                    check.due("whoVetoes: " + said, x.whoVetoes(0, 0, 1, 0), due);
                    check.due("the other way round: " + said, x.whoVetoes(1, 0, 0, 0), due);
                    check.due("swap: " + said, x.swap(0, 0, 1, 0), due);
                    check.due("bag(0, 0, 1)", x.bag(0, 0, 1), due == NONE ? other : value);
                    check.due("bag(1, 0, 1)", x.bag(1, 0, 1), due == NONE ? value : other);
                    check.due("vetoes(1)", x.vetoes(1), due == 1 ? 0 : 1);
                    check.due("vetoes(2)", x.vetoes(2), due == 2 ? 0 : 1);
                    check.due("total(6)", x.total(6), due == NONE ? 1 : 0);
                    check.due("total(7)", x.total(7), due == NONE ? 0 : 1);
                    MarbleHeirs y = twoMarbles(value, other, patience, 0);
                    check.due("without vetoes: " + said, y.whoVetoes(0, 0, 1, 0), NONE);
                    check.due("without vetoes: " + said, y.swap(0, 0, 1, 0), NONE);
                    check.due("vetoes(1)", y.vetoes(1) + y.vetoes(2), 0);
                }
            }
        }
    }

    private static void patienceAtTheBeginning() {
        check.topic("patience is 2 at the beginning");
        MarbleHeirs x = Calls.machine("come 0 0; come 1 1; write r5g3r4g1; pour; divide");
        check.due("total(12)", x.total(12), 2);
        // Bags: heir 0 r5 g1, heir 1 g3 r4.
        check.due("a loss of 2", x.whoVetoes(0, 0, 1, 0), NONE);
        check.due("a loss of 3", x.whoVetoes(1, 1, 0, 1), 1);
        check.due("a loss of 2 of the second", x.whoVetoes(0, 1, 1, 0), NONE);
    }

    private static void vetoesAtTheBeginning() {
        check.topic("each mother has 2 vetoes at the beginning");
        for (int mother = 0; mother <= 3; mother++) {
            MarbleHeirs x = new MarbleHeirs();
            check.due("vetoes", x.vetoes(mother), 2);
            x.come(mother, 0);
            x.come((mother + 1) % 4, 1);
            Check.pour(x, "r9g1");
            x.round();
            check.due("the first veto", x.swap(0, 0, 1, 0), mother);
            check.due("vetoes", x.vetoes(mother), 1);
            check.due("the second veto", x.swap(1, 0, 0, 0), mother);
            check.due("vetoes", x.vetoes(mother), 0);
            check.due("otherwise she lets it pass", x.swap(0, 0, 1, 0), NONE);
            check.due("vetoes", x.vetoes(mother), 0);
            check.due("vetoes of the next mother", x.vetoes((mother + 1) % 4), 2);
            check.bag(x, 0, "g1");
            check.bag(x, 1, "r9");
        }
    }

    private static void vetoesRunOut() {
        check.topic("if a mother vetoes, she has one veto less");
        MarbleHeirs x = twoMarbles(9, 1, 7, 9);
        for (int left = 8; left >= 0; left--) {
            check.due("swap", x.swap(0, 0, 1, 0), 1);
            check.due("vetoes(1)", x.vetoes(1), left);
        }
        check.due("whoVetoes with none left", x.whoVetoes(0, 0, 1, 0), NONE);
        check.due("swap with none left", x.swap(0, 0, 1, 0), NONE);
        check.due("vetoes(1)", x.vetoes(1), 0);
        check.due("vetoes(2)", x.vetoes(2), 9);
        check.due("total(7)", x.total(7), 9);
        check.due("undo()", x.undo(), 4);
        check.due("undo() of the last veto", x.undo(), 3);
        check.due("vetoes(1)", x.vetoes(1), 1);
        check.due("whoVetoes with one left again", x.whoVetoes(0, 0, 1, 0), 1);
    }

    private static void oneMotherLosesAVeto() {
        check.topic("the swap is not made, and she has one veto less");
        MarbleHeirs x = twoMarbles(1, 4, 2, 1);
        check.due("the second one's mother", x.swap(0, 0, 1, 0), 2);
        check.due("vetoes(1)", x.vetoes(1), 1);
        check.due("vetoes(2)", x.vetoes(2), 0);
        check.bag(x, 0, "r1");
        check.bag(x, 1, "g4");
        check.due("total(6)", x.total(6), 0);
        for (int mother : new int[] {0, 3}) {
            check.due("vetoes(" + mother + ")", x.vetoes(mother), 2);
        }
    }

    private static void motherOfBoth() {
        check.topic("the mother of the first heir, and then that of the second one, is asked");
        MarbleHeirs x = Calls.machine("come 3 0; come 3 1; write r1g9; pour; round; grant 3 1");
        check.due("she vetoes once", x.swap(0, 0, 1, 0), 3);
        check.due("vetoes(3)", x.vetoes(3), 0);
        check.due("total(7)", x.total(7), 1);
        check.due("she lets it pass", x.swap(0, 0, 1, 0), NONE);
        check.due("vetoes(3)", x.vetoes(3), 0);
    }

    // ---- Texts

    private static void textsOfOneItem() {
        check.topic("item = [ number ] colour value");
        for (int colour = 0; colour < 6; colour++) {
            for (int value = 1; value <= 9; value++) {
                MarbleHeirs x = new MarbleHeirs();
                Check.write(x, "" + COLOURS.charAt(colour) + value);
                check.due("errorPosition()", x.errorPosition(), NONE);
                check.due("pour()", x.pour(), 1);
                check.due("hopper(0, 0)", x.hopper(0, 0), colour);
                check.due("hopper(0, 1)", x.hopper(0, 1), value);
            }
        }
    }

    private static void numbersOfAnItem() {
        check.topic("an item stands for so many marbles, for one if there is no number");
        for (int number = 1; number <= 9; number++) {
            MarbleHeirs x = new MarbleHeirs();
            check.due("pour()", Check.pour(x, number + "k7"), number);
            check.hopper(x, "k7".repeat(number));
        }
        MarbleHeirs x = new MarbleHeirs();
        check.due("the number ends with its item", Check.pour(x, "3r1g2"), 4);
        check.hopper(x, "r1r1r1g2");
        MarbleHeirs y = new MarbleHeirs();
        check.due("a value is no number of the next item", Check.pour(y, "r3g12b2"), 4);
        check.hopper(y, "r3g1b2b2");
    }

    private static void text(String text, int position) {
        MarbleHeirs x = new MarbleHeirs();
        Check.write(x, text);
        check.due("errorPosition() of \"" + text + "\"", x.errorPosition(), position);
        if (position != NONE) {
            check.due("pour() of \"" + text + "\"", x.pour(), BAD_TEXT);
            check.due("clearText()", x.clearText(), text.length());
        }
    }

    private static void textsThatGoWrong() {
        check.topic("a character is an error if no text begins with it and those ahead of it");
        for (String sign : new String[] {"0", "R", "K", "a", "!", "~", ";", "-", ":", "/"}) {
            text(sign, 0);
            text("2" + sign, 1);
            text("r" + sign, 1);
            text("2r" + sign, 2);
            text("r1" + sign, 2);
            text("r1" + sign + "g1", 2);
            text("2r1g2" + sign, 5);
        }
        text("22r1", 1);
        text("2r12", 4);
        text("r123g1", 3);
        text("rg1", 1);
        text("r1gb", 3);
        text("2rg1", 2);
        // Only the first error is told; what stands behind it does not mend it.
        text("0r1", 0);
        text("r1r0r1", 3);
        text("x0x", 0);
    }

    private static void textsThatBreakOff() {
        check.topic("texts that break off or are empty");
        text("", 0);
        for (String begun : new String[] {"r", "2", "2r", "r1g", "r12", "r12g", "2r12", "2r12g"}) {
            text(begun, begun.length());
            text(begun + (begun.charAt(begun.length() - 1) > '9' ? "9" : "w9"), NONE);
        }
    }

    private static void fullBuffer() {
        check.topic("a buffer of at most 50 characters holds marbles");
        MarbleHeirs x = new MarbleHeirs();
        String text = "r1g2b3y4k5".repeat(5);
        for (int length = 1; length <= 50; length++) {
            check.due("append", x.append(text.charAt(length - 1)), length);
            check.due("errorPosition()", x.errorPosition(), length % 2 == 0 ? NONE : length);
        }
        check.due("append as the 51st", x.append('r'), LIMIT);
        check.due("errorPosition()", x.errorPosition(), NONE);
        check.due("pour()", x.pour(), 25);
        check.hopper(x, text);
        check.due("append behind pour", x.append('r'), 1);
        text("r1".repeat(24) + "1r", 50);
        text("r1".repeat(24) + "r0", 49);
        text("0" + "r1".repeat(24) + "r", 0);
    }

    // ---- Undo

    private static void fiveStates() {
        check.topic("at most 5 states are kept; when a sixth one is recorded, the oldest one goes");
        for (int made = 0; made <= 12; made++) {
            MarbleHeirs x = new MarbleHeirs();
            for (int i = 0; i < made; i++) {
                x.drop(0, 1);
            }
            int kept = Math.min(made, 5);
            for (int left = kept - 1; left >= 0; left--) {
                check.due("undo() behind " + made, x.undo(), left);
                check.due("total(1)", x.total(1), made - kept + left);
            }
            check.due("undo() of none", x.undo(), NOT_POSSIBLE);
            check.due("total(1)", x.total(1), made - kept);
            check.due("drop", x.drop(0, 1), made - kept + 1);
            check.due("undo()", x.undo(), 0);
        }
        // Recorded states that are used up make room for new ones.
        MarbleHeirs y = Calls.machine("drop 0 1; drop 0 2; drop 0 3; drop 0 4; drop 0 5; drop 0 6;"
                + " undo; undo; drop 1 1; drop 1 2; drop 1 3");
        check.hopper(y, "r1r2r3r4g1g2g3");
        String[] due = {"r1r2r3r4g1g2", "r1r2r3r4g1", "r1r2r3r4", "r1r2r3", "r1r2"};
        for (int left = 4; left >= 0; left--) {
            check.due("undo()", y.undo(), left);
            check.hopper(y, due[4 - left]);
        }
        check.due("undo() of none", y.undo(), NOT_POSSIBLE);
    }

    private static void callsThatMakeNoDifference() {
        check.topic("also if the call makes no difference");
        String made = "come 0 0; come 1 1; setRule 2; drop 0 1; save";
        for (String call : new String[] {"wish 0 0", "setRule 2", "setPatience 2", "grant 3 2",
            "round", "divide", "settle", "restore"}) {
            MarbleHeirs x = Calls.machine(made);
            String ahead = Calls.readings(x);
            check.holds(call + " is answered", Calls.tell(x, call) >= 0);
            check.holds(call + " makes no difference", ahead.equals(Calls.readings(x)));
            check.due("undo() of " + call, x.undo(), 4);
            check.holds("undo() makes none either", ahead.equals(Calls.readings(x)));
            check.due("undo() of the drop", x.undo(), 3);
            check.due("total(1)", x.total(1), 0);
        }
    }

    private static void errorsAreNotRecorded() {
        check.topic("if they return no error code");
        MarbleHeirs x = Calls.machine("drop 0 1; drop 0 2; come 4 0; come 0 6; leave 0; wish 0 0;"
                + " setRule 3; setPatience 9; grant 4 0; grant 0 10; drop 6 1; drop 0 0; round;"
                + " divide; swap 0 0 1 0; pour; restore");
        check.due("undo()", x.undo(), 1);
        check.hopper(x, "r1");
        check.due("undo()", x.undo(), 0);
        check.due("undo() of none", x.undo(), NOT_POSSIBLE);
    }

    private static void stateIsWithoutTheBuffer() {
        check.topic("the state is everything except the buffer");
        MarbleHeirs x = Calls.machine("write r1; drop 0 1; save; write g2; undo");
        check.due("errorPosition() behind undo", x.errorPosition(), NONE);
        check.due("append behind undo", x.append('b'), 5);
        x.restore();
        check.due("clearText() behind restore", x.clearText(), 5);
        x = Calls.machine("write 2r1; pour; undo");
        check.due("undo() of pour leaves the buffer empty", x.clearText(), 0);
        check.due("total(1)", x.total(1), 0);
        x = Calls.machine("drop 0 1; write r1; clearText");
        check.due("clearText() is not recorded", x.undo(), 0);
        check.due("clearText()", x.clearText(), 0);
    }

    private static void stateIsWithoutTheSavedState() {
        check.topic("the state is everything except the saved state of save()");
        MarbleHeirs x = Calls.machine("drop 0 1; save; drop 0 2; undo; undo");
        check.due("total(1) behind both undos", x.total(1), 0);
        check.due("restore() of a state saved behind what is undone", x.restore(), 0);
        check.hopper(x, "r1");
        x = Calls.machine("save; come 0 0; save; restore; undo");
        check.due("undo() of restore() leaves the later saved state", x.undo(), 0);
        check.due("restore()", x.restore(), 1);
    }

    private static void stateIsWithoutTheRecordedStates() {
        check.topic("the state is everything except the recorded states");
        MarbleHeirs x = Calls.machine("save; drop 0 1; drop 0 2; restore; drop 0 3");
        check.due("undo()", x.undo(), 3);
        check.hopper(x, "");
        check.due("undo() of restore()", x.undo(), 2);
        check.hopper(x, "r1r2");
        check.due("undo()", x.undo(), 1);
        check.due("undo()", x.undo(), 0);
        check.due("undo() of none", x.undo(), NOT_POSSIBLE);
    }

    private static void stateIsAllElse() {
        check.topic("the state is everything");
        String made = "come 0 1; come 1 0; write r9g1b4r2; pour; divide; swap 0 0 1 0; drop 1 1";
        String[] calls = {"come 2 2", "leave 0", "wish 1 5", "setRule 1", "setPatience 0",
            "grant 0 7", "drop 5 9", "round", "divide", "swap 0 1 1 1", "swap 0 0 1 0", "settle",
            "write 3k3; pour", "restore"};
        for (String call : calls) {
            MarbleHeirs x = Calls.machine("save; " + made);
            String ahead = Calls.readings(x);
            Calls.play(x, call);
            check.holds(call + " makes a difference", !ahead.equals(Calls.readings(x)));
            check.due("undo() of " + call, x.undo(), 4);
            check.holds(call + " is undone", ahead.equals(Calls.readings(x)));
            x.save();
            Calls.play(x, call.equals("restore") ? "drop 2 2" : call);
            x.restore();
            check.holds("restore() behind " + call, ahead.equals(Calls.readings(x)));
        }
    }
}
