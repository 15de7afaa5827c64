/** Counts answers, prints those that are not the ones that are due, and ends the test. */
final class Check {
    private final String name;
    private String topic = "";
    private int asked = 0;
    private int wrong = 0;

    Check(String name) {
        this.name = name;
    }

    /** Says what the checks behind it are about. */
    void topic(String words) {
        topic = words;
    }

    void due(String call, long got, long want) {
        asked++;
        if (got != want) {
            wrong++;
            System.out.println(topic + ": " + call + " answered " + got + ", due is " + want);
        }
    }

    void holds(String what, boolean truth) {
        asked++;
        if (!truth) {
            wrong++;
            System.out.println(topic + ": it does not hold that " + what);
        }
    }

    /** The numbers of the heirs in their order. */
    void order(MarbleHeirs x, int... heirs) {
        for (int place = 0; place < heirs.length; place++) {
            due("at(" + place + ")", x.at(place), heirs[place]);
        }
        due("at(" + heirs.length + ")", x.at(heirs.length), MarbleHeirs.NO_SUCH);
    }

    /** The marbles of a bag as a text in which each has its own item, as in "r1g9". */
    void bag(MarbleHeirs x, int heir, String marbles) {
        StringBuilder found = new StringBuilder();
        for (int place = 0; x.bag(heir, place, 0) >= 0; place++) {
            found.append("rgbywk".charAt(x.bag(heir, place, 0))).append(x.bag(heir, place, 1));
        }
        holds("bag " + heir + " is " + marbles + ", not " + found, marbles.contentEquals(found));
    }

    /** The marbles of the hopper, as in bag(). */
    void hopper(MarbleHeirs x, String marbles) {
        StringBuilder found = new StringBuilder();
        for (int place = 0; x.hopper(place, 0) >= 0; place++) {
            found.append("rgbywk".charAt(x.hopper(place, 0))).append(x.hopper(place, 1));
        }
        holds("the hopper is " + marbles + ", not " + found, marbles.contentEquals(found));
    }

    /** A machine whose heirs have these mothers and wishes, a pair of digits each, as in "01 22". */
    static MarbleHeirs machine(String heirs) {
        MarbleHeirs x = new MarbleHeirs();
        for (String pair : heirs.split(" ")) {
            x.come(pair.charAt(0) - '0', pair.charAt(1) - '0');
        }
        return x;
    }

    /** Writes a text into the empty buffer. */
    static void write(MarbleHeirs x, String text) {
        x.clearText();
        for (char c : text.toCharArray()) {
            x.append(c);
        }
    }

    static int pour(MarbleHeirs x, String text) {
        write(x, text);
        return x.pour();
    }

    /** How many states are recorded; they are used up. */
    static int recorded(MarbleHeirs x) {
        int count = 0;
        while (x.undo() >= 0) {
            count++;
        }
        return count;
    }

    void end() {
        System.out.println(name + ": " + asked + " checks, " + wrong + " wrong");
        if (wrong != 0) {
            System.exit(1);
        }
    }
}
