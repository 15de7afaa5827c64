/**
 * Terms, "Return values": each call answers the first error code that applies, in the order of the
 * document, and a call that answers one changes nothing, neither what can be read nor the buffer,
 * the recorded states and the saved one.
 */
public final class RefusedCallsTest {
    private static final int NO_SUCH = MarbleHeirs.NO_SUCH;
    private static final int BAD_VALUE = MarbleHeirs.BAD_VALUE;
    private static final int NOT_POSSIBLE = MarbleHeirs.NOT_POSSIBLE;
    private static final int LIMIT = MarbleHeirs.LIMIT;
    private static final int BAD_TEXT = MarbleHeirs.BAD_TEXT;

    private static final String FORTY = "write 9r19g19b19y14w1; pour; ";
    private static final String FIFTY_SIGNS = "write " + "r1g2b3y4k5".repeat(5);

    private static final String NEW = "";
    /** Bags r9 g1 b5 y7, r9 g1 b5 and r9 g1 b5 in some order; hopper k5 w4; buffer breaks off. */
    private static final String MIDDLE = "come 0 0; come 1 1; come 2 2; write 3r93g13b5y7; pour;"
            + " divide; save; drop 5 5; drop 4 4; setPatience 5; setRule 1; grant 0 1; write r1g";
    /** Six heirs, 80 marbles in bags, 40 in the hopper; the buffer is a text. */
    private static final String FULL = "come 0 0; come 1 1; come 2 2; come 3 3; come 0 4; come 1 5; "
            + FORTY + "divide; " + FORTY + "divide; " + FORTY + "save; write 9r9";
    /** No heir, 40 marbles in the hopper, 50 signs in the buffer, which is a text. */
    private static final String HOPPER = FORTY + FIFTY_SIGNS;
    /** One heir with 120 marbles; the buffer is a text. */
    private static final String BAG = "come 0 0; " + (FORTY + "divide; ").repeat(3) + "write r1";
    /** Two heirs with a marble each and 39 in the hopper; the buffer goes wrong. */
    private static final String NEARLY = "come 0 0; come 1 1; write r5g5; pour; round;"
            + " write 9r19g19b19y13w1; pour; write 2w1g0";
    private static final String[] STATES = {NEW, MIDDLE, FULL, HOPPER, BAG, NEARLY};

    private static final Check check = new Check("RefusedCallsTest");

    public static void main(String[] args) {
        theStatesThemselves();
        inEveryState();
        withoutHeirs();
        inANewObject();
        inTheMiddle();
        inAFullMachine();
        withAFullHopper();
        withAFullBag();
        nearTheLimit();
        check.end();
    }

    private static void theStatesThemselves() {
        check.topic("the states of this test");
        int[][] due = {{0, 0, 0}, {3, 2, 10}, {6, 40, 80}, {0, 40, 0}, {1, 0, 120}, {2, 39, 2}};
        for (int state = 0; state < STATES.length; state++) {
            MarbleHeirs x = Calls.machine(STATES[state]);
            for (int what = 0; what < 3; what++) {
                check.due("total(" + what + ") of " + state, x.total(what), due[state][what]);
            }
        }
    }

    private static void inEveryState() {
        for (String state : STATES) {
            refuse(state, NO_SUCH, "come -1 0; come 4 0; come least 0; come most 0; come 4 6;"
                    + " come -1 -1; leave -1; leave 6; leave least; leave most");
            refuse(state, BAD_VALUE, "come 0 -1; come 3 6; come 0 least; come 0 most");
            refuse(state, NO_SUCH, "wish -1 0; wish 6 0; wish least 0; wish most 0; wish 6 6;"
                    + " wish -1 -1; grant -1 0; grant 4 0; grant least 0; grant most 0;"
                    + " grant 4 10; grant -1 -1");
            refuse(state, BAD_VALUE, "grant 0 -1; grant 3 10; grant 0 least; grant 0 most");
            refuse(state, BAD_VALUE, "setRule -1; setRule 3; setRule least; setRule most;"
                    + " setPatience -1; setPatience 9; setPatience least; setPatience most");
            refuse(state, BAD_VALUE, "drop -1 1; drop 6 1; drop least 1; drop most 1; drop 0 0;"
                    + " drop 5 10; drop 0 -1; drop 0 least; drop 0 most; drop 6 10; drop -1 0");
            for (String swap : new String[] {"swap ", "whoVetoes "}) {
                refuse(state, NO_SUCH, swap + "-1 0 0 0; " + swap + "6 0 0 0; " + swap
                        + "0 -1 1 0; " + swap + "0 120 1 0; " + swap + "0 0 -1 0; " + swap
                        + "0 0 6 0; " + swap + "1 0 0 -1; " + swap + "1 0 0 120; " + swap
                        + "least least least least; " + swap + "most most most most; " + swap
                        + "0 0 0 120; " + swap + "0 -1 0 0; " + swap + "-1 -1 -1 -1");
            }
            refuse(state, NO_SUCH, "heir -1 0; heir 6 0; heir least 0; heir most 0; heir 6 6;"
                    + " heir -1 -1; bag -1 0 0; bag 6 0 0; bag 6 0 2; bag 0 -1 0; bag 0 120 0;"
                    + " bag 0 120 2; bag 0 least -1; bag 0 most 2; bag least 0 0; bag most 0 0");
            refuse(state, NO_SUCH, "hopper -1 0; hopper 40 0; hopper 40 2; hopper -1 -1;"
                    + " hopper least 0; hopper most 0; vetoes -1; vetoes 4; vetoes least;"
                    + " vetoes most; at -1; at 6; at least; at most");
            refuse(state, BAD_VALUE, "total -1; total 13; total least; total most; bestSwap -1;"
                    + " bestSwap 5; bestSwap least; bestSwap most");
            refuse(state, NO_SUCH, "ifDivided -1 0; ifDivided 6 0; ifDivided 6 3;"
                    + " ifDivided -1 -1; ifDivided least 0; ifDivided most 0");
            refuse(state, BAD_VALUE, "append 32; append 127; append 0; append -1; append least;"
                    + " append most; append 289");
        }
    }

    private static void withoutHeirs() {
        for (String state : new String[] {NEW, HOPPER}) {
            refuse(state, NOT_POSSIBLE, "round; divide; restore");
            refuse(state, NO_SUCH, "leave 0; wish 0 0; wish 0 6; heir 0 0; heir 0 6; bag 0 0 0;"
                    + " at 0; ifDivided 0 0; ifDivided 0 3; swap 0 0 1 0; swap 0 0 0 0;"
                    + " whoVetoes 0 0 0 0");
        }
    }

    private static void inANewObject() {
        refuse(NEW, NOT_POSSIBLE, "undo");
        refuse(NEW, BAD_TEXT, "pour");
        refuse(NEW, NO_SUCH, "hopper 0 0; hopper 0 2");
    }

    private static void inTheMiddle() {
        refuse(MIDDLE, NO_SUCH, "leave 3; wish 3 0; wish 3 6; heir 3 0; heir 3 6; bag 3 0 0;"
                + " bag 0 4 0; bag 1 3 2; hopper 2 0; hopper 2 2; at 3; ifDivided 3 0;"
                + " ifDivided 3 3; swap 0 0 3 0; swap 3 0 0 0; swap 0 4 1 0; swap 0 0 1 3;"
                + " swap 0 4 0 0; swap 0 0 0 4; swap 3 0 3 0; whoVetoes 0 4 0 0;"
                + " whoVetoes 0 0 0 4; whoVetoes 0 0 3 0; whoVetoes 3 0 3 0");
        refuse(MIDDLE, BAD_VALUE, "wish 2 6; wish 0 -1; wish 0 least; wish 0 most; heir 0 -1;"
                + " heir 2 6; bag 0 0 -1; bag 2 2 2; hopper 0 -1; hopper 1 2; ifDivided 0 -1;"
                + " ifDivided 2 3; heir 0 least; heir 0 most; bag 0 0 least; bag 0 0 most;"
                + " hopper 0 least; hopper 0 most; ifDivided 0 least; ifDivided 0 most");
        refuse(MIDDLE, BAD_VALUE, "swap 0 0 0 0; swap 0 0 0 3; swap 2 2 2 1; whoVetoes 0 0 0 0;"
                + " whoVetoes 0 3 0 0; whoVetoes 2 1 2 2");
        refuse(MIDDLE, BAD_TEXT, "pour");
    }

    private static void inAFullMachine() {
        refuse(FULL, LIMIT, "come 0 0; come 3 5; drop 0 1; drop 5 9; pour; leave 0; leave 5");
        refuse(FULL + "9", BAD_TEXT, "pour");
        refuse(FULL, BAD_VALUE, "swap 5 0 5 1; heir 5 6; bag 5 0 2; hopper 39 2; ifDivided 5 3");
    }

    private static void withAFullHopper() {
        refuse(HOPPER, LIMIT, "append 33; append 126; append 114; drop 0 1; pour");
    }

    private static void withAFullBag() {
        refuse(BAG, LIMIT, "leave 0; drop 0 1; drop 5 9; pour");
        refuse(BAG, NO_SUCH, "leave 1; bag 1 0 0; swap 0 0 1 0; hopper 0 0");
        refuse(BAG, BAD_VALUE, "swap 0 0 0 119; swap 0 119 0 119; bag 0 119 2");
    }

    private static void nearTheLimit() {
        refuse(NEARLY, BAD_TEXT, "pour");
        refuse(NEARLY + "; clearText; write 2w1", LIMIT, "pour");
        refuse(NEARLY + "; drop 1 1", LIMIT, "leave 0; leave 1; drop 0 1");
        refuse(NEARLY + "; drop 1 1; clearText; write r1", LIMIT, "pour");
        refuse(NEARLY + "; drop 1 1; clearText", BAD_TEXT, "pour");
    }

    /** Each of the calls must answer the code in this state, and leave all as it was. */
    private static void refuse(String state, int code, String calls) {
        check.topic("refused behind \"" + state + "\"");
        String ahead = print(state, "");
        for (String call : calls.split(";")) {
            if (call.isBlank()) {
                continue;
            }
            check.due(call, Calls.tell(Calls.machine(state), call), code);
            String behind = print(state, call);
            check.holds(call + " changes nothing: " + ahead + " | " + behind, ahead.equals(behind));
        }
    }

    /** What a machine is behind a call; each part is asked of a new one, to stay below 512 calls. */
    private static String print(String state, String call) {
        StringBuilder all = new StringBuilder();
        all.append(part(state, call, "total 0"));
        all.append(part(state, call, "errorPosition"));
        all.append(part(state, call, "clearText"));
        all.append(part(state, call, "pour"));
        all.append(part(state, call, "restore"));
        for (int undos = 1; undos <= 6; undos++) {
            all.append(part(state, call + "; undo".repeat(undos - 1), "undo"));
        }
        return all.toString();
    }

    private static String part(String state, String calls, String last) {
        MarbleHeirs x = Calls.machine(state);
        Calls.play(x, calls);
        return "[" + last + " = " + Calls.tell(x, last) + ": " + Calls.readings(x) + "]";
    }
}
