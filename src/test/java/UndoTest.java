/** Promises 27 to 29: undo, saved state. */
public final class UndoTest {
    private static final int NOT_POSSIBLE = MarbleHeirs.NOT_POSSIBLE;

    private static final Check check = new Check("UndoTest");

    public static void main(String[] args) {
        undo();
        undoBringsAllBack();
        whatIsRecorded();
        save();
        restore();
        restoreBringsAllBack();
        check.end();
    }

    private static void undo() {
        check.topic("promise 27");
        MarbleHeirs x = new MarbleHeirs();
        check.due("undo() of nothing", x.undo(), NOT_POSSIBLE);
        for (int i = 1; i <= 8; i++) {
            x.drop(0, i);
        }
        for (int left = 4; left >= 0; left--) {
            check.due("undo()", x.undo(), left);
            check.due("total(1)", x.total(1), left + 3);
        }
        check.due("undo() of more", x.undo(), NOT_POSSIBLE);
        check.hopper(x, "r1r2r3");
        x.drop(0, 9);
        x.drop(0, 8);
        check.due("undo()", x.undo(), 1);
        x.drop(0, 7);
        check.hopper(x, "r1r2r3r9r7");
        check.due("undo()", x.undo(), 1);
        check.due("undo()", x.undo(), 0);
        check.hopper(x, "r1r2r3");
    }

    private static MarbleHeirs example() {
        MarbleHeirs x = Check.machine("00 11 22");
        Check.pour(x, "g9r1b4r3k6");
        x.round();
        x.swap(0, 0, 1, 0);
        x.setPatience(4);
        return x;
    }

    private static void undoBringsAllBack() {
        for (int call = 0; call < 14; call++) {
            MarbleHeirs x = example();
            String ahead = Calls.readings(x);
            check.holds("call " + call + " is no error", callOf(x, call) >= 0 || call == 9);
            check.due("undo() of call " + call, x.undo(), 4);
            String behind = Calls.readings(x);
            check.holds("call " + call + " is undone: " + ahead + " | " + behind,
                    ahead.equals(behind));
        }
    }

    /** A call that is undoable; call 9 makes a swap, so its answer is NONE. */
    private static int callOf(MarbleHeirs x, int call) {
        switch (call) {
            case 0: return x.come(3, 3);
            case 1: return x.leave(0);
            case 2: return x.wish(0, 5);
            case 3: return x.setRule(1);
            case 4: return x.setPatience(8);
            case 5: return x.grant(3, 0);
            case 6: return x.drop(5, 5);
            case 7: return x.round();
            case 8: return x.divide();
            case 9: return x.swap(1, 0, 2, 0);
            case 10: return x.swap(0, 0, 1, 0);
            case 11: return x.settle();
            case 12: return Check.pour(x, "3k3");
            default: x.save(); return x.restore();
        }
    }

    private static void whatIsRecorded() {
        MarbleHeirs x = example();
        x.undo();
        x.clearText();
        x.append('r');
        x.errorPosition();
        x.clearText();
        x.save();
        x.ifDivided(0, 0);
        x.fairestRule();
        x.whoVetoes(0, 0, 1, 0);
        x.bestSwap(0);
        x.total(0);
        check.due("recorded behind calls that are not undoable", Check.recorded(x), 4);
        x = example();
        x.undo();
        x.come(9, 0);
        x.leave(9);
        x.wish(9, 0);
        x.setRule(9);
        x.setPatience(9);
        x.grant(9, 0);
        x.drop(9, 0);
        x.swap(9, 0, 0, 0);
        x.swap(0, 0, 0, 0);
        x.pour();
        x.restore();
        check.due("recorded behind errors", Check.recorded(x), 4);
    }

    private static void save() {
        check.topic("promise 28");
        MarbleHeirs x = new MarbleHeirs();
        check.due("save()", x.save(), 0);
        check.due("undo() behind save()", x.undo(), NOT_POSSIBLE);
        x.come(0, 0);
        x.come(1, 1);
        check.due("save()", x.save(), 2);
        x.come(2, 2);
        x.undo();
        x.undo();
        check.due("restore() of what was saved last", x.restore(), 2);
    }

    private static void restore() {
        check.topic("promise 29");
        MarbleHeirs x = Check.machine("00 11 22");
        check.due("restore() of nothing", x.restore(), NOT_POSSIBLE);
        check.due("undo()", x.undo(), 2);
        x.save();
        x.leave(0);
        x.drop(1, 1);
        check.due("restore()", x.restore(), 2);
        check.due("total(0)", x.total(0), 2);
        check.due("total(1)", x.total(1), 0);
        check.due("undo() of restore()", x.undo(), 4);
        check.due("total(0)", x.total(0), 1);
        check.due("total(1)", x.total(1), 1);
        x.leave(0);
        check.due("restore() again", x.restore(), 2);
        x.come(3, 3);
        check.due("restore() a third time", x.restore(), 2);
        check.due("heir(1, 0)", x.heir(1, 0), 1);
        x.come(3, 3);
        while (x.undo() >= 0) {
            continue;
        }
        check.due("restore() behind all undos", x.restore(), 2);
    }

    private static void restoreBringsAllBack() {
        MarbleHeirs x = example();
        String saved = Calls.readings(x);
        x.save();
        for (int call = 0; call < 13; call++) {
            callOf(x, call);
        }
        x.restore();
        check.holds("all is as it was saved", saved.equals(Calls.readings(x)));
        callOf(x, 9);
        x.leave(1);
        x.restore();
        check.holds("it remains saved as it was", saved.equals(Calls.readings(x)));
    }
}
