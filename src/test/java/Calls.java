/** The calls of the face by their numbers, in the order of the document. */
final class Calls {
    static final String[] NAMES = {
        "come", "leave", "wish", "setRule", "setPatience", "grant", "drop", "round", "divide",
        "swap", "settle", "heir", "bag", "hopper", "vetoes", "at", "total", "ifDivided",
        "fairestRule", "whoVetoes", "bestSwap", "append", "clearText", "errorPosition", "pour",
        "undo", "save", "restore"};

    /** How many arguments each call takes. */
    static final int[] ARGUMENTS = {
        2, 1, 2, 1, 1, 2, 2, 0, 0, 4, 0, 2, 3, 2, 1, 1, 1, 2, 0, 4, 1, 1, 0, 0, 0, 0, 0, 0};

    private Calls() { }

    static int numberOf(String name) {
        for (int call = 0; call < NAMES.length; call++) {
            if (NAMES[call].equals(name)) {
                return call;
            }
        }
        throw new IllegalArgumentException("there is no call " + name);
    }

    /** The program's answer; a call takes as many of the arguments as it needs. */
    static int answer(MarbleHeirs x, int call, int a, int b, int c, int d) {
        switch (call) {
            case 0: return x.come(a, b);
            case 1: return x.leave(a);
            case 2: return x.wish(a, b);
            case 3: return x.setRule(a);
            case 4: return x.setPatience(a);
            case 5: return x.grant(a, b);
            case 6: return x.drop(a, b);
            case 7: return x.round();
            case 8: return x.divide();
            case 9: return x.swap(a, b, c, d);
            case 10: return x.settle();
            case 11: return x.heir(a, b);
            case 12: return x.bag(a, b, c);
            case 13: return x.hopper(a, b);
            case 14: return x.vetoes(a);
            case 15: return x.at(a);
            case 16: return x.total(a);
            case 17: return x.ifDivided(a, b);
            case 18: return x.fairestRule();
            case 19: return x.whoVetoes(a, b, c, d);
            case 20: return x.bestSwap(a);
            case 21: return x.append(a);
            case 22: return x.clearText();
            case 23: return x.errorPosition();
            case 24: return x.pour();
            case 25: return x.undo();
            case 26: return x.save();
            default: return x.restore();
        }
    }

    /** A call told as text, as in "swap 0 1 2 3"; "write r1g2" appends each character. */
    static int tell(MarbleHeirs x, String told) {
        String[] words = told.trim().split(" ");
        if (words[0].equals("write")) {
            int answer = 0;
            for (char c : words[1].toCharArray()) {
                answer = x.append(c);
            }
            return answer;
        }
        int[] given = arguments(words);
        return answer(x, numberOf(words[0]), given[0], given[1], given[2], given[3]);
    }

    /** The arguments behind the name of a call; "least" and "most" are the ends of int. */
    static int[] arguments(String[] words) {
        int[] given = new int[4];
        int call = numberOf(words[0]);
        if (words.length - 1 != ARGUMENTS[call]) {
            throw new IllegalArgumentException("arguments of " + words[0]);
        }
        for (int i = 1; i < words.length; i++) {
            given[i - 1] = words[i].equals("least") ? Integer.MIN_VALUE
                    : words[i].equals("most") ? Integer.MAX_VALUE : Integer.parseInt(words[i]);
        }
        return given;
    }

    /** A machine behind calls that are told one behind the other, as in "come 0 1; drop 2 3". */
    static MarbleHeirs machine(String told) {
        MarbleHeirs x = new MarbleHeirs();
        play(x, told);
        return x;
    }

    static void play(MarbleHeirs x, String told) {
        for (String call : told.split(";")) {
            if (!call.isBlank()) {
                tell(x, call);
            }
        }
    }

    /** All that the readings tell of a machine, in some 300 calls at most. */
    static String readings(MarbleHeirs x) {
        StringBuilder all = new StringBuilder();
        for (int what = 0; what <= 12; what++) {
            all.append(x.total(what)).append(' ');
        }
        for (int mother = 0; mother < 4; mother++) {
            all.append(x.vetoes(mother)).append(' ');
        }
        int inHopper = x.total(1);
        for (int place = 0; place < inHopper; place++) {
            all.append(x.hopper(place, 0)).append(x.hopper(place, 1)).append(' ');
        }
        int heirs = x.total(0);
        for (int heir = 0; heir < heirs; heir++) {
            all.append(" / ").append(x.at(heir));
            for (int part = 0; part <= 5; part++) {
                all.append(' ').append(x.heir(heir, part));
            }
            int inBag = x.heir(heir, 2);
            for (int place = 0; place < inBag; place++) {
                all.append(' ').append(x.bag(heir, place, 0)).append(x.bag(heir, place, 1));
            }
        }
        return all.toString();
    }
}
