/**
 * All promises: in states at the edges of the document, each call with each choice of arguments at
 * their edges answers as the plain model does, and so does all that is read behind it.
 */
public final class EdgesTest {
    private static final int LEAST = Integer.MIN_VALUE;
    private static final int MOST = Integer.MAX_VALUE;
    private static final String FORTY = "write 9r79g59b29y84w4; pour; ";
    private static final String SIX =
            "come 0 0; come 1 1; come 2 2; come 3 3; come 0 4; come 1 5; ";

    private static final String[] STATES = {
        // nothing at all; heirs alone; marbles alone
        "",
        "come 3 5",
        SIX + "write 9",
        FORTY + "write " + "r1g2b3y4k5".repeat(5),
        // one marble less than heirs, as many, and one more, under each rule
        "come 0 0; come 1 1; come 2 2; setRule 0; write g3r5; pour; write g",
        "come 0 0; come 1 1; come 2 2; setRule 1; write g3r5b9r1; pour; write gg",
        "come 0 0; come 1 1; come 2 2; setRule 2; write g3r5b9k7; pour; round; write g1",
        "come 0 0; come 1 1; come 2 2; setRule 1; write g3r5b9; pour; save; write r12g3x",
        // a turned order, vetoes and wishes
        "come 0 1; come 1 0; come 0 2; write r9g1b5r3g7b2r4; pour; divide; setRule 1; save;"
                + " swap 0 0 1 0; grant 1 0; drop 0 3; drop 2 6; write 3b9",
        "come 2 1; come 2 0; write r9g1b5r3g7g8; pour; divide; setPatience 0; grant 2 1; save;"
                + " leave 0; undo; undo",
        "come 2 1; come 3 0; write r9g1b5r3g7g8; pour; divide; setPatience 8; undo; grant 3 9;"
                + " settle; save; restore",
        // full: heirs, hopper, all together
        SIX + FORTY + "divide; setRule 2; " + FORTY + "divide; write 9r79g59b29y8; pour;"
                + " write r1",
        SIX + FORTY + "divide; setRule 1; " + FORTY + "divide; " + FORTY + "save; write 9r9",
        "come 0 0; " + (FORTY + "divide; ").repeat(3) + "come 1 3; write r1",
        "come 0 0; " + (FORTY + "divide; ").repeat(2) + "write 9r79g59b29y83w4; pour; divide;"
                + " write 2r1",
        "come 0 0; write r5; pour; round; write 9r79g59b29y83w4; pour; save; write k1",
        "come 0 0; write r5; pour; round; " + FORTY + "undo; " + FORTY + "write k1"};

    private static final int[] HEIRS = {LEAST, -1, 0, 1, 2, 3, 5, 6, 7, MOST};
    private static final int[] SMALL = {LEAST, -1, 0, 1, 2, 3, 4, 5, 6, 8, 9, 10, 12, 13, MOST};
    private static final int[] PLACES = {LEAST, -1, 0, 1, 2, 3, 6, 7, 13, 14, 38, 39, 40, 118, 119,
        120, MOST};
    private static final int[] PARTS = {LEAST, -1, 0, 1, 2, MOST};
    private static final int[] SWAPPED = {-1, 0, 1, 2, 6, 13, 119};
    private static final int[] CODES = {LEAST, 0, 31, 32, 33, 48, 49, 57, 58, 98, 114, 120, 126,
        127, 128, 370, MOST};
    private static final int[] NOTHING = {0};

    private static final Check check = new Check("EdgesTest");

    public static void main(String[] args) {
        for (String state : STATES) {
            check.topic("behind \"" + state + "\"");
            for (int call = 0; call < Calls.NAMES.length; call++) {
                everyArgument(state, call);
            }
        }
        check.end();
    }

    private static void everyArgument(String state, int call) {
        for (int a : choices(call, 0)) {
            for (int b : choices(call, 1)) {
                for (int c : choices(call, 2)) {
                    for (int d : choices(call, 3)) {
                        new EdgesTest(state).askAndRead(call, a, b, c, d);
                    }
                }
            }
        }
    }

    private static int[] choices(int call, int argument) {
        if (argument >= Calls.ARGUMENTS[call]) {
            return NOTHING;
        }
        switch (Calls.NAMES[call]) {
            case "swap": case "whoVetoes":
                return SWAPPED;
            case "bag":
                return argument == 0 ? HEIRS : argument == 1 ? PLACES : PARTS;
            case "hopper":
                return argument == 0 ? PLACES : PARTS;
            case "append":
                return CODES;
            default:
                return SMALL;
        }
    }

    private final MarbleHeirs program = new MarbleHeirs();
    private final PlainModel model = new PlainModel();

    private EdgesTest(String state) {
        for (String told : state.split(";")) {
            String[] words = told.trim().split(" ");
            if (words[0].equals("write")) {
                for (char c : words[1].toCharArray()) {
                    ask(Calls.numberOf("append"), c, 0, 0, 0);
                }
            } else if (!words[0].isEmpty()) {
                int[] given = Calls.arguments(words);
                ask(Calls.numberOf(words[0]), given[0], given[1], given[2], given[3]);
            }
        }
    }

    private int ask(int call, int a, int b, int c, int d) {
        int due = model.answer(call, a, b, c, d);
        int got = Calls.answer(program, call, a, b, c, d);
        if (got != due) {
            check.due(Calls.NAMES[call] + " of " + a + ", " + b + ", " + c + ", " + d, got, due);
        }
        return due;
    }

    private void askAndRead(int call, int a, int b, int c, int d) {
        int answer = ask(call, a, b, c, d);
        String said = Calls.NAMES[call] + " of " + a + ", " + b + ", " + c + ", " + d;
        check.holds("the state behind " + said + " is as due", readsAsDue());
        ask(Calls.numberOf("errorPosition"), 0, 0, 0, 0);
        ask(Calls.numberOf("clearText"), 0, 0, 0, 0);
        // What a refused call leaves behind is RefusedCallsTest's.
        if (answer >= 0 || answer == MarbleHeirs.NONE) {
            ask(Calls.numberOf("undo"), 0, 0, 0, 0);
            check.holds("the state behind undo() behind " + said + " is as due", readsAsDue());
            ask(Calls.numberOf("restore"), 0, 0, 0, 0);
            ask(Calls.numberOf("total"), 8, 0, 0, 0);
        }
    }

    /** The numbers of the whole, the heirs and their order; some 65 calls. */
    private boolean readsAsDue() {
        boolean same = true;
        for (int what = 0; what <= 12; what++) {
            same &= asDue("total", what, 0);
        }
        for (int heir = 0; heir < 6; heir++) {
            same &= asDue("at", heir, 0) & asDue("vetoes", heir, 0);
            for (int part = 0; part <= 5; part++) {
                same &= asDue("heir", heir, part);
            }
        }
        for (int place : new int[] {0, 1, 38, 39}) {
            same &= asDue("hopper", place, 0);
        }
        return same;
    }

    private boolean asDue(String name, int a, int b) {
        int call = Calls.numberOf(name);
        return Calls.answer(program, call, a, b, 0, 0) == model.answer(call, a, b, 0, 0);
    }
}
