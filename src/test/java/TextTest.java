/** Promises 23 to 26: texts. */
public final class TextTest {
    private static final int BAD_VALUE = MarbleHeirs.BAD_VALUE;
    private static final int LIMIT = MarbleHeirs.LIMIT;
    private static final int BAD_TEXT = MarbleHeirs.BAD_TEXT;
    private static final int NOT_POSSIBLE = MarbleHeirs.NOT_POSSIBLE;
    private static final int NONE = MarbleHeirs.NONE;
    private static final int LEAST = Integer.MIN_VALUE;
    private static final int MOST = Integer.MAX_VALUE;

    private static final Check check = new Check("TextTest");

    public static void main(String[] args) {
        append();
        clearText();
        errorPosition();
        everyCharacterAtEveryStage();
        pour();
        pourBadText();
        pourAtTheLimits();
        bufferIsNoState();
        check.end();
    }

    private static void append() {
        check.topic("promise 23");
        MarbleHeirs x = new MarbleHeirs();
        for (int wrong : new int[] {-1, 0, 32, 127, 33 + 256, LEAST, MOST}) {
            check.due("append(" + wrong + ")", x.append(wrong), BAD_VALUE);
        }
        check.due("append(33)", x.append(33), 1);
        check.due("append(126)", x.append(126), 2);
        for (int i = 3; i <= 50; i++) {
            check.due("append('r')", x.append('r'), i);
        }
        check.due("append(32) as the 51st", x.append(32), BAD_VALUE);
        check.due("append('r') as the 51st", x.append('r'), LIMIT);
        check.due("undo()", x.undo(), NOT_POSSIBLE);
        check.due("clearText()", x.clearText(), 50);
    }

    private static void clearText() {
        check.topic("promise 24");
        MarbleHeirs x = new MarbleHeirs();
        check.due("clearText()", x.clearText(), 0);
        Check.write(x, "r1g");
        check.due("clearText()", x.clearText(), 3);
        check.due("clearText()", x.clearText(), 0);
        check.due("append('r')", x.append('r'), 1);
        check.due("errorPosition()", x.errorPosition(), 1);
        check.due("undo()", x.undo(), NOT_POSSIBLE);
    }

    private static void position(String text, int due) {
        MarbleHeirs x = new MarbleHeirs();
        Check.write(x, text);
        check.due("errorPosition() of " + text, x.errorPosition(), due);
        check.due("again", x.errorPosition(), due);
        check.due("clearText() of " + text, x.clearText(), text.length());
    }

    private static void errorPosition() {
        check.topic("promise 25");
        position("", 0);
        position("r1", NONE);
        position("1r1", NONE);
        position("9k9r1", NONE);
        position("r12g3", NONE);
        position("r1g2b3y4w5k6", NONE);
        position("r", 1);
        position("3", 1);
        position("3r", 2);
        position("r1g", 3);
        position("r13", 3);
        position("r13g", 4);
        position("0r1", 0);
        position("r0", 1);
        position("10r1", 1);
        position("12r1", 1);
        position("rr1", 1);
        position("r1R1", 2);
        position("r123", 3);
        position("r1x", 2);
        position("r1!!", 2);
        position("r1r1r1r1r1r1r1r1r1r1r1r1r1r1r1r1r1r1r1r1r1r1r1r1r1", NONE);
        position("r1r1r1r1r1r1r1r1r1r1r1r1r1r1r1r1r1r1r1r1r1r1r1r11r", 50);
        position("r1r1r1r1r1r1r1r1r1r1r1r1r1r1r1r1r1r1r1r1r1r1r1r1rr", 49);
    }

    private static void everyCharacterAtEveryStage() {
        for (int code = 33; code <= 126; code++) {
            boolean digit = "123456789".indexOf(code) >= 0;
            boolean colour = "rgbywk".indexOf(code) >= 0;
            String c = String.valueOf((char) code);
            position(c, digit || colour ? 1 : 0);
            position("5" + c, colour ? 2 : 1);
            position("r" + c, digit ? NONE : 1);
            position("r1" + c, digit || colour ? 3 : 2);
            position("5r" + c, digit ? NONE : 2);
        }
    }

    private static void pour() {
        check.topic("promise 26");
        MarbleHeirs x = new MarbleHeirs();
        x.drop(0, 1);
        check.due("pour()", Check.pour(x, "r1g2b3y4w5k6"), 7);
        check.hopper(x, "r1r1g2b3y4w5k6");
        check.due("clearText() behind pour", x.clearText(), 0);
        check.due("pour() of the empty buffer", x.pour(), BAD_TEXT);
        check.due("pour()", Check.pour(x, "2r9k73g1"), 13);
        check.hopper(x, "r1r1g2b3y4w5k6r9r9k7g1g1g1");
        check.due("undo()", x.undo(), 2);
        check.hopper(x, "r1r1g2b3y4w5k6");
        check.due("clearText() behind undo", x.clearText(), 0);
        check.due("undo()", x.undo(), 1);
        check.hopper(x, "r1");
    }

    private static void pourBadText() {
        MarbleHeirs x = new MarbleHeirs();
        for (String bad : new String[] {"", "r", "3", "r1g", "r0", "12r1", "r1x", "r1x1", "R1"}) {
            check.due("pour() of " + bad, Check.pour(x, bad), BAD_TEXT);
            check.due("clearText()", x.clearText(), bad.length());
        }
        check.due("total(1)", x.total(1), 0);
        check.due("undo()", x.undo(), NOT_POSSIBLE);
    }

    private static void pourAtTheLimits() {
        MarbleHeirs x = Check.machine("00");
        check.due("pour() of 41", Check.pour(x, "9r19r19r19r15r1"), LIMIT);
        check.due("total(1)", x.total(1), 0);
        check.due("clearText()", x.clearText(), 15);
        check.due("pour() of 40", Check.pour(x, "9r19r19r19r14r1"), 40);
        check.due("pour() of the 41st", Check.pour(x, "g9"), LIMIT);
        check.due("the buffer stays", x.clearText(), 2);
        x.divide();
        Check.pour(x, "9r19r19r19r14r1");
        x.divide();
        check.due("pour() of 39", Check.pour(x, "9r19r19r19r13r1"), 39);
        x.divide();
        check.due("pour() of the 120th and 121st", Check.pour(x, "2g9"), LIMIT);
        check.due("total(1)", x.total(1), 0);
        check.due("errorPosition()", x.errorPosition(), NONE);
        check.due("a bad text goes ahead of the limit", Check.pour(x, "9g99"), BAD_TEXT);
        check.due("pour() of the 120th", Check.pour(x, "g9"), 1);
        check.due("pour() of the 121st", Check.pour(x, "g9"), LIMIT);
        check.due("undo()", x.undo(), 4);
        check.due("total(1)", x.total(1), 0);
        check.due("the buffer of the last pour", x.clearText(), 2);

        // A text may fill the buffer.
        x = new MarbleHeirs();
        check.due("pour() of 25 items", Check.pour(x, "r1g2b3y4k5".repeat(5)), 25);
        check.hopper(x, "r1g2b3y4k5".repeat(5));

        // The longest text stands for 9 times 16 marbles and a number's one.
        MarbleHeirs y = new MarbleHeirs();
        StringBuilder longest = new StringBuilder();
        for (int i = 0; i < 16; i++) {
            longest.append("9k9");
        }
        check.due("pour() of 145", Check.pour(y, longest + "r1"), LIMIT);
        check.due("clearText()", y.clearText(), 50);
    }

    private static void bufferIsNoState() {
        MarbleHeirs x = new MarbleHeirs();
        x.drop(0, 1);
        x.save();
        Check.write(x, "r1g2");
        x.drop(0, 2);
        x.undo();
        check.due("the buffer behind undo()", x.errorPosition(), NONE);
        x.restore();
        check.due("the buffer behind restore()", x.clearText(), 4);
    }
}
