/**
 * A machine that divides inherited marbles: a hopper, chutes to the bags of heirs by rounds, odd
 * rules, wishes, swaps, vetoes of mothers, and marbles that are read from texts.
 *
 * All objects are made by the constructor; the calls only use them again.
 */
public final class MarbleHeirs {

    public static final int NO_SUCH = -1;
    public static final int BAD_VALUE = -2;
    public static final int NOT_POSSIBLE = -3;
    public static final int LIMIT = -4;
    public static final int BAD_TEXT = -5;
    public static final int NONE = -6;

    private static final int FINE = 0;

    private static final int MOTHERS = 4;
    private static final int COLOURS = 6;
    private static final int TOP_VALUE = 9;
    private static final int TOP_PATIENCE = 8;
    private static final int TOP_GRANT = 9;
    private static final int FIRST_PATIENCE = 2;
    private static final int FIRST_VETOES = 2;

    private static final int MAX_HEIRS = 6;
    private static final int MAX_IN_HOPPER = 40;
    private static final int MAX_MARBLES = 120;
    private static final int MAX_TEXT = 50;
    private static final int MAX_PAST = 5;

    // Above the sum of the values in any bag.
    private static final int ABOVE_ALL_SUMS = MAX_MARBLES * TOP_VALUE + 1;

    // Who holds marbles: a bag has the number of its heir, the hopper the one behind them all.
    private static final int HOPPER = MAX_HEIRS;
    private static final int END_OF_ALL = HOPPER + 1;

    // The odd rules.
    private static final int IN_ORDER = 0;
    private static final int POOREST_FIRST = 1;
    private static final int STAY = 2;

    // The parts of heir().
    private static final int MOTHER = 0;
    private static final int WISH = 1;
    private static final int NUMBER = 2;
    private static final int SUM = 3;
    private static final int WISHED = 4;
    private static final int PLACE = 5;

    private static final int LAST_TOTAL = 12;
    private static final int LAST_OF_SWAP = 4;
    private static final int FIRST_CODE = 33;
    private static final int LAST_CODE = 126;

    private final State now;
    private final State trial;
    private final State saved;
    private boolean hasSaved;
    private final Past past;
    private final Text text;
    private final BestSwap best;

    public MarbleHeirs() {
        now = new State();
        trial = new State();
        saved = new State();
        hasSaved = false;
        past = new Past();
        text = new Text();
        best = new BestSwap();
    }

    // ---- heirs and settings

    public int come(int mother, int wish) {
        if (!isMother(mother)) {
            return NO_SUCH;
        }
        if (!isColour(wish)) {
            return BAD_VALUE;
        }
        if (now.heirs >= MAX_HEIRS) {
            return LIMIT;
        }
        past.keep(now);
        return now.addHeir(mother, wish);
    }

    public int leave(int heir) {
        if (!now.hasHeir(heir)) {
            return NO_SUCH;
        }
        int freed = now.marbles.count(heir);
        if (now.marbles.count(HOPPER) + freed > MAX_IN_HOPPER) {
            return LIMIT;
        }
        past.keep(now);
        now.removeHeir(heir);
        return freed;
    }

    public int wish(int heir, int colour) {
        if (!now.hasHeir(heir)) {
            return NO_SUCH;
        }
        if (!isColour(colour)) {
            return BAD_VALUE;
        }
        past.keep(now);
        now.wishes[heir] = colour;
        return now.marbles.countOf(heir, colour);
    }

    public int setRule(int rule) {
        if (rule < IN_ORDER || rule > STAY) {
            return BAD_VALUE;
        }
        past.keep(now);
        int previous = now.rule;
        now.rule = rule;
        return previous;
    }

    public int setPatience(int patience) {
        if (patience < 0 || patience > TOP_PATIENCE) {
            return BAD_VALUE;
        }
        past.keep(now);
        int previous = now.patience;
        now.patience = patience;
        return previous;
    }

    public int grant(int mother, int vetoes) {
        if (!isMother(mother)) {
            return NO_SUCH;
        }
        if (vetoes < 0 || vetoes > TOP_GRANT) {
            return BAD_VALUE;
        }
        past.keep(now);
        int previous = now.vetoesLeft[mother];
        now.vetoesLeft[mother] = vetoes;
        return previous;
    }

    // ---- marbles

    public int drop(int colour, int value) {
        if (!isColour(colour) || value < 1 || value > TOP_VALUE) {
            return BAD_VALUE;
        }
        if (!now.marbles.hasRoom()) {
            return LIMIT;
        }
        past.keep(now);
        now.marbles.add(colour, value);
        return now.marbles.count(HOPPER);
    }

    public int round() {
        if (now.heirs == 0) {
            return NOT_POSSIBLE;
        }
        past.keep(now);
        return now.playRound();
    }

    public int divide() {
        if (now.heirs == 0) {
            return NOT_POSSIBLE;
        }
        past.keep(now);
        return now.playAllRounds();
    }

    public int swap(int heir, int marble, int other, int place) {
        int error = swapError(heir, marble, other, place);
        if (error != FINE) {
            return error;
        }
        past.keep(now);
        return now.exchangeUnlessVetoed(heir, marble, other, place);
    }

    public int settle() {
        past.keep(now);
        best.searchIn(now);
        int made = 0;
        // Each swap fulfils one wish more at least, so there are never more swaps than marbles.
        while (best.growth > 0 && made < MAX_MARBLES) {
            now.exchange(best.heir, best.marble, best.other, best.place);
            made++;
            best.searchIn(now);
        }
        return made;
    }

    // ---- what there is

    public int heir(int heir, int part) {
        if (!now.hasHeir(heir)) {
            return NO_SUCH;
        }
        if (part < MOTHER || part > PLACE) {
            return BAD_VALUE;
        }
        return now.about(heir, part);
    }

    public int bag(int heir, int marble, int part) {
        if (!now.hasMarble(heir, marble)) {
            return NO_SUCH;
        }
        return now.marbles.describe(heir, marble, part);
    }

    public int hopper(int marble, int part) {
        if (!now.marbles.has(HOPPER, marble)) {
            return NO_SUCH;
        }
        return now.marbles.describe(HOPPER, marble, part);
    }

    public int vetoes(int mother) {
        if (!isMother(mother)) {
            return NO_SUCH;
        }
        return now.vetoesLeft[mother];
    }

    public int at(int place) {
        if (place < 0 || place >= now.heirs) {
            return NO_SUCH;
        }
        return now.order[place];
    }

    public int total(int what) {
        if (what < 0 || what > LAST_TOTAL) {
            return BAD_VALUE;
        }
        return now.figure(what);
    }

    // ---- predictions; they change nothing

    public int ifDivided(int heir, int part) {
        if (!now.hasHeir(heir)) {
            return NO_SUCH;
        }
        if (part < 0 || part > WISHED - NUMBER) {
            return BAD_VALUE;
        }
        trial.copyFrom(now);
        trial.playAllRounds();
        return trial.about(heir, NUMBER + part);
    }

    public int fairestRule() {
        if (now.heirs == 0) {
            return NONE;
        }
        int fairest = IN_ORDER;
        int least = spreadUnder(IN_ORDER);
        for (int rule = IN_ORDER + 1; rule <= STAY; rule++) {
            int spread = spreadUnder(rule);
            if (spread < least) {
                least = spread;
                fairest = rule;
            }
        }
        return fairest;
    }

    public int whoVetoes(int heir, int marble, int other, int place) {
        int error = swapError(heir, marble, other, place);
        if (error != FINE) {
            return error;
        }
        return now.vetoer(heir, marble, other, place);
    }

    public int bestSwap(int part) {
        if (part < 0 || part > LAST_OF_SWAP) {
            return BAD_VALUE;
        }
        best.searchIn(now);
        return best.tell(part);
    }

    // ---- texts

    public int append(int code) {
        if (code < FIRST_CODE || code > LAST_CODE) {
            return BAD_VALUE;
        }
        if (text.length >= MAX_TEXT) {
            return LIMIT;
        }
        text.add(code);
        return text.length;
    }

    public int clearText() {
        int contained = text.length;
        text.length = 0;
        return contained;
    }

    public int errorPosition() {
        return text.firstError();
    }

    public int pour() {
        if (text.firstError() != NONE) {
            return BAD_TEXT;
        }
        trial.copyFrom(now);
        if (!text.dropInto(trial.marbles)) {
            return LIMIT;
        }
        past.keep(now);
        now.copyFrom(trial);
        text.length = 0;
        return now.marbles.count(HOPPER);
    }

    // ---- undo, saved state

    public int undo() {
        if (past.count == 0) {
            return NOT_POSSIBLE;
        }
        past.takeBack(now);
        return past.count;
    }

    public int save() {
        saved.copyFrom(now);
        hasSaved = true;
        return now.heirs;
    }

    public int restore() {
        if (!hasSaved) {
            return NOT_POSSIBLE;
        }
        past.keep(now);
        now.copyFrom(saved);
        return now.heirs;
    }

    // ---- what several calls need

    private static boolean isMother(int mother) {
        return mother >= 0 && mother < MOTHERS;
    }

    private static boolean isColour(int colour) {
        return colour >= 0 && colour < COLOURS;
    }

    /** Moves a number of a row to a later place of it; those between come one place ahead. */
    private static void moveBack(int[] row, int from, int to) {
        int moved = row[from];
        for (int i = from; i < to; i++) {
            row[i] = row[i + 1];
        }
        row[to] = moved;
    }

    private int swapError(int heir, int marble, int other, int place) {
        if (!now.hasMarble(heir, marble) || !now.hasMarble(other, place)) {
            return NO_SUCH;
        }
        return heir == other ? BAD_VALUE : FINE;
    }

    private int spreadUnder(int rule) {
        trial.copyFrom(now);
        trial.rule = rule;
        trial.playAllRounds();
        return trial.spread(SUM);
    }

    /**
     * All marbles in one row: those of the first heir's bag, those of the second one's, and so on;
     * those of the hopper last. So a copy is short, and a new marble goes to the end of the row.
     */
    private static final class Marbles {

        // A marble is colour * COLOUR_STEP + value.
        private static final int COLOUR_STEP = 10;

        private final int[] row = new int[MAX_MARBLES];
        // Each holder's marbles begin where those of the one ahead end.
        private final int[] starts = new int[END_OF_ALL + 1];

        void copyFrom(Marbles other) {
            System.arraycopy(other.row, 0, row, 0, MAX_MARBLES);
            System.arraycopy(other.starts, 0, starts, 0, END_OF_ALL + 1);
        }

        int count(int holder) {
            return starts[holder + 1] - starts[holder];
        }

        boolean has(int holder, int place) {
            return place >= 0 && place < count(holder);
        }

        int colour(int holder, int place) {
            return row[starts[holder] + place] / COLOUR_STEP;
        }

        int value(int holder, int place) {
            return row[starts[holder] + place] % COLOUR_STEP;
        }

        int describe(int holder, int place, int part) {
            switch (part) {
                case 0:
                    return colour(holder, place);
                case 1:
                    return value(holder, place);
                default:
                    return BAD_VALUE;
            }
        }

        int sum(int holder) {
            int sum = 0;
            for (int i = starts[holder]; i < starts[holder + 1]; i++) {
                sum += row[i] % COLOUR_STEP;
            }
            return sum;
        }

        int countOf(int holder, int colour) {
            int found = 0;
            for (int i = starts[holder]; i < starts[holder + 1]; i++) {
                if (row[i] / COLOUR_STEP == colour) {
                    found++;
                }
            }
            return found;
        }

        boolean hasRoom() {
            return count(HOPPER) < MAX_IN_HOPPER && starts[END_OF_ALL] < MAX_MARBLES;
        }

        /** Adds a marble to the hopper; false, and nothing is done, if there is no room. */
        boolean add(int colour, int value) {
            if (!hasRoom()) {
                return false;
            }
            row[starts[END_OF_ALL]] = colour * COLOUR_STEP + value;
            starts[END_OF_ALL]++;
            return true;
        }

        void giveFirstTo(int heir) {
            if (count(HOPPER) == 0) {
                return;
            }
            int from = starts[HOPPER];
            int to = starts[heir + 1];
            int marble = row[from];
            for (int i = from; i > to; i--) {
                row[i] = row[i - 1];
            }
            row[to] = marble;
            for (int holder = heir + 1; holder <= HOPPER; holder++) {
                starts[holder]++;
            }
        }

        void trade(int heir, int marble, int other, int place) {
            int one = starts[heir] + marble;
            int two = starts[other] + place;
            int given = row[one];
            row[one] = row[two];
            row[two] = given;
        }

        /** Puts the marbles of a bag to the end of the hopper and takes the bag away. */
        void removeBag(int heir) {
            int size = count(heir);
            for (int i = 0; i < size; i++) {
                moveBack(row, starts[heir], starts[END_OF_ALL] - 1);
            }
            for (int holder = heir + 1; holder <= HOPPER; holder++) {
                starts[holder] -= size;
            }
            for (int holder = heir + 1; holder < HOPPER; holder++) {
                starts[holder] = starts[holder + 1];
            }
        }
    }

    /** All that undo() and restore() bring back. */
    private static final class State {

        final Marbles marbles = new Marbles();
        int heirs = 0;
        final int[] mothers = new int[MAX_HEIRS];
        final int[] wishes = new int[MAX_HEIRS];
        final int[] order = new int[MAX_HEIRS];
        final int[] vetoesLeft = new int[MOTHERS];
        int rule = IN_ORDER;
        int patience = FIRST_PATIENCE;
        int roundsMade = 0;
        int swapsMade = 0;
        int vetoesMade = 0;

        State() {
            for (int mother = 0; mother < MOTHERS; mother++) {
                vetoesLeft[mother] = FIRST_VETOES;
            }
        }

        void copyFrom(State other) {
            marbles.copyFrom(other.marbles);
            heirs = other.heirs;
            System.arraycopy(other.mothers, 0, mothers, 0, MAX_HEIRS);
            System.arraycopy(other.wishes, 0, wishes, 0, MAX_HEIRS);
            System.arraycopy(other.order, 0, order, 0, MAX_HEIRS);
            System.arraycopy(other.vetoesLeft, 0, vetoesLeft, 0, MOTHERS);
            rule = other.rule;
            patience = other.patience;
            roundsMade = other.roundsMade;
            swapsMade = other.swapsMade;
            vetoesMade = other.vetoesMade;
        }

        boolean hasHeir(int heir) {
            return heir >= 0 && heir < heirs;
        }

        boolean hasMarble(int heir, int place) {
            return hasHeir(heir) && marbles.has(heir, place);
        }

        int addHeir(int mother, int wish) {
            int heir = heirs;
            mothers[heir] = mother;
            wishes[heir] = wish;
            order[heir] = heir;
            heirs++;
            return heir;
        }

        void removeHeir(int heir) {
            marbles.removeBag(heir);
            moveBack(order, placeOf(heir), heirs - 1);
            moveBack(mothers, heir, heirs - 1);
            moveBack(wishes, heir, heirs - 1);
            heirs--;
            for (int place = 0; place < heirs; place++) {
                if (order[place] > heir) {
                    order[place]--;
                }
            }
        }

        private int placeOf(int heir) {
            int place = 0;
            while (place < heirs - 1 && order[place] != heir) {
                place++;
            }
            return place;
        }

        // ---- rounds

        int playAllRounds() {
            int counted = 0;
            // A round that counts takes one marble at least out of the hopper.
            for (int most = marbles.count(HOPPER); most > 0 && playRound() > 0; most--) {
                counted++;
            }
            return counted;
        }

        int playRound() {
            int number = Math.min(heirs, marbles.count(HOPPER));
            boolean odd = number < heirs;
            if (odd && rule == STAY) {
                return 0;
            }
            if (odd && rule == POOREST_FIRST) {
                giveToPoorest(number);
            } else {
                giveInOrder(number);
            }
            if (number > 0) {
                moveBack(order, 0, heirs - 1);
                roundsMade++;
            }
            return number;
        }

        private void giveInOrder(int number) {
            for (int place = 0; place < number; place++) {
                marbles.giveFirstTo(order[place]);
            }
        }

        private void giveToPoorest(int number) {
            // A bit for each heir who has got a marble in this round.
            int served = 0;
            for (int i = 0; i < number; i++) {
                int heir = poorestBut(served);
                marbles.giveFirstTo(heir);
                served |= 1 << heir;
            }
        }

        private int poorestBut(int served) {
            int poorest = 0;
            int least = ABOVE_ALL_SUMS;
            for (int place = 0; place < heirs; place++) {
                int heir = order[place];
                int sum = marbles.sum(heir);
                if ((served >> heir & 1) == 0 && sum < least) {
                    poorest = heir;
                    least = sum;
                }
            }
            return poorest;
        }

        // ---- swaps

        int exchangeUnlessVetoed(int heir, int marble, int other, int place) {
            int mother = vetoer(heir, marble, other, place);
            if (mother == NONE) {
                exchange(heir, marble, other, place);
            } else {
                vetoesLeft[mother]--;
                vetoesMade++;
            }
            return mother;
        }

        void exchange(int heir, int marble, int other, int place) {
            marbles.trade(heir, marble, other, place);
            swapsMade++;
        }

        int vetoer(int heir, int marble, int other, int place) {
            int loss = marbles.value(heir, marble) - marbles.value(other, place);
            if (objects(mothers[heir], loss)) {
                return mothers[heir];
            }
            return objects(mothers[other], -loss) ? mothers[other] : NONE;
        }

        private boolean objects(int mother, int loss) {
            return loss > patience && vetoesLeft[mother] > 0;
        }

        // ---- numbers

        int about(int heir, int part) {
            switch (part) {
                case MOTHER:
                    return mothers[heir];
                case WISH:
                    return wishes[heir];
                case NUMBER:
                    return marbles.count(heir);
                case SUM:
                    return marbles.sum(heir);
                case WISHED:
                    return marbles.countOf(heir, wishes[heir]);
                default:
                    return placeOf(heir);
            }
        }

        int figure(int what) {
            switch (what) {
                case 0:
                    return heirs;
                case 1:
                    return marbles.count(HOPPER);
                case 2:
                    return overAll(NUMBER);
                case 3:
                    return marbles.sum(HOPPER);
                case 4:
                    return overAll(SUM);
                case 5:
                    return roundsMade;
                case 6:
                    return swapsMade;
                case 7:
                    return vetoesMade;
                case 8:
                    return overAll(WISHED);
                case 9:
                    return spread(NUMBER);
                case 10:
                    return spread(SUM);
                case 11:
                    return rule;
                default:
                    return patience;
            }
        }

        private int overAll(int part) {
            int sum = 0;
            for (int heir = 0; heir < heirs; heir++) {
                sum += about(heir, part);
            }
            return sum;
        }

        int spread(int part) {
            if (heirs == 0) {
                return 0;
            }
            int least = about(0, part);
            int greatest = least;
            for (int heir = 1; heir < heirs; heir++) {
                int number = about(heir, part);
                least = Math.min(least, number);
                greatest = Math.max(greatest, number);
            }
            return greatest - least;
        }
    }

    /** The swap that bestSwap() tells; there is none while growth is 0. */
    private static final class BestSwap {

        int heir = 0;
        int marble = 0;
        int other = 0;
        int place = 0;
        int growth = 0;
        private int difference = 0;

        int tell(int part) {
            if (growth == 0) {
                return NONE;
            }
            switch (part) {
                case 0:
                    return heir;
                case 1:
                    return marble;
                case 2:
                    return other;
                case 3:
                    return place;
                default:
                    return growth;
            }
        }

        // The loops here and below go in the order that breaks a tie: the first swap found stays.
        void searchIn(State state) {
            growth = 0;
            difference = 0;
            for (int first = 0; first < state.heirs; first++) {
                int size = state.marbles.count(first);
                for (int i = 0; i < size; i++) {
                    searchPartners(state, first, i);
                }
            }
        }

        private void searchPartners(State state, int first, int i) {
            int given = state.marbles.colour(first, i);
            int wished = state.wishes[first];
            for (int second = first + 1; second < state.heirs; second++) {
                int wishedThere = state.wishes[second];
                int gain = one(given, wishedThere) - one(given, wished);
                // The marble that comes back adds 1 at most.
                int size = gain + 1 < Math.max(growth, 1) ? 0 : state.marbles.count(second);
                for (int j = 0; j < size; j++) {
                    int got = state.marbles.colour(second, j);
                    int grown = gain + one(got, wished) - one(got, wishedThere);
                    if (grown > 0 && grown >= growth) {
                        weigh(state, first, i, second, j, grown);
                    }
                }
            }
        }

        private static int one(int colour, int wish) {
            return colour == wish ? 1 : 0;
        }

        private void weigh(State state, int first, int i, int second, int j, int grown) {
            int apart = Math.abs(state.marbles.value(first, i) - state.marbles.value(second, j));
            boolean better = grown > growth || apart < difference;
            if (better && state.vetoer(first, i, second, j) == NONE) {
                heir = first;
                marble = i;
                other = second;
                place = j;
                growth = grown;
                difference = apart;
            }
        }
    }

    /** The recorded states, the oldest one first. */
    private static final class Past {

        private final State[] states = new State[MAX_PAST];
        int count = 0;

        Past() {
            for (int i = 0; i < MAX_PAST; i++) {
                states[i] = new State();
            }
        }

        void keep(State state) {
            if (count >= MAX_PAST) {
                discardOldest();
            }
            states[count].copyFrom(state);
            count++;
        }

        // The object of the oldest state goes to the end, to be used again.
        private void discardOldest() {
            State oldest = states[0];
            for (int i = 1; i < MAX_PAST; i++) {
                states[i - 1] = states[i];
            }
            states[MAX_PAST - 1] = oldest;
            count = MAX_PAST - 1;
        }

        void takeBack(State state) {
            if (count > 0) {
                count--;
                state.copyFrom(states[count]);
            }
        }
    }

    /** The buffer of characters. */
    private static final class Text {

        private static final int NO_COLOUR = -1;

        // What a character of the text can be behind those ahead of it.
        private static final int AT_ITEM = 0;
        private static final int AT_COLOUR = 1;
        private static final int AT_VALUE = 2;
        private static final int AT_ERROR = 3;

        private final int[] codes = new int[MAX_TEXT];
        int length = 0;

        void add(int code) {
            if (length < MAX_TEXT) {
                codes[length] = code;
                length++;
            }
        }

        int firstError() {
            int stage = AT_ITEM;
            for (int i = 0; i < length; i++) {
                stage = stageBehind(stage, codes[i]);
                if (stage == AT_ERROR) {
                    return i;
                }
            }
            return stage == AT_ITEM && length > 0 ? NONE : length;
        }

        /** Drops the marbles of a buffer that is a text; false as soon as one finds no room. */
        boolean dropInto(Marbles marbles) {
            int stage = AT_ITEM;
            int number = 1;
            int colour = 0;
            for (int i = 0; i < length; i++) {
                int code = codes[i];
                if (isColourLetter(code)) {
                    colour = colourOf(code);
                } else if (stage == AT_ITEM) {
                    number = code - '0';
                } else if (!dropEach(marbles, number, colour, code - '0')) {
                    return false;
                } else {
                    number = 1;
                }
                stage = stageBehind(stage, code);
            }
            return true;
        }

        private static boolean dropEach(Marbles marbles, int number, int colour, int value) {
            for (int i = 0; i < number; i++) {
                if (!marbles.add(colour, value)) {
                    return false;
                }
            }
            return true;
        }

        private static int stageBehind(int stage, int code) {
            boolean digit = code >= '1' && code <= '9';
            if (stage == AT_VALUE) {
                return digit ? AT_ITEM : AT_ERROR;
            }
            if (isColourLetter(code)) {
                return AT_VALUE;
            }
            return stage == AT_ITEM && digit ? AT_COLOUR : AT_ERROR;
        }

        private static boolean isColourLetter(int code) {
            return colourOf(code) != NO_COLOUR;
        }

        private static int colourOf(int code) {
            switch (code) {
                case 'r':
                    return 0;
                case 'g':
                    return 1;
                case 'b':
                    return 2;
                case 'y':
                    return 3;
                case 'w':
                    return 4;
                case 'k':
                    return 5;
                default:
                    return NO_COLOUR;
            }
        }
    }
}
