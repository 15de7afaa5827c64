import java.util.ArrayList;
import java.util.Comparator;
import java.util.List;
import java.util.regex.Matcher;
import java.util.regex.Pattern;

/**
 * The document told a second time, as plainly as the Java library lets it be and in another way
 * than the program does: each state is a thing of lists that is copied whole.
 */
final class PlainModel {
    private static final int NO_SUCH = -1;
    private static final int BAD_VALUE = -2;
    private static final int NOT_POSSIBLE = -3;
    private static final int LIMIT = -4;
    private static final int BAD_TEXT = -5;
    private static final int NONE = -6;

    private static final Pattern TEXT = Pattern.compile("([1-9]?[rgbywk][1-9])+");
    private static final Pattern ITEM = Pattern.compile("([1-9]?)([rgbywk])([1-9])");

    /** A marble is never changed, so copies of a state may share it. */
    record Marble(int colour, int value) { }

    static final class Heir {
        int mother;
        int wish;
        List<Marble> bag = new ArrayList<>();

        Heir copy() {
            Heir copy = new Heir();
            copy.mother = mother;
            copy.wish = wish;
            copy.bag.addAll(bag);
            return copy;
        }

        int sum() {
            return bag.stream().mapToInt(Marble::value).sum();
        }

        int fulfilled() {
            return (int) bag.stream().filter(m -> m.colour() == wish).count();
        }
    }

    static final class World {
        List<Heir> heirs = new ArrayList<>();
        /** Places in the list of heirs. */
        List<Integer> order = new ArrayList<>();
        List<Marble> hopper = new ArrayList<>();
        int[] vetoes = {2, 2, 2, 2};
        int rule = 0;
        int patience = 2;
        int rounds = 0;
        int swaps = 0;
        int vetoed = 0;

        World copy() {
            World copy = new World();
            for (Heir heir : heirs) {
                copy.heirs.add(heir.copy());
            }
            copy.order.addAll(order);
            copy.hopper.addAll(hopper);
            copy.vetoes = vetoes.clone();
            copy.rule = rule;
            copy.patience = patience;
            copy.rounds = rounds;
            copy.swaps = swaps;
            copy.vetoed = vetoed;
            return copy;
        }

        int round() {
            int given = 0;
            int here = hopper.size();
            if (here >= heirs.size() || rule == 0) {
                for (int heir : order) {
                    if (!hopper.isEmpty()) {
                        heirs.get(heir).bag.add(hopper.remove(0));
                        given++;
                    }
                }
            } else if (rule == 1) {
                List<Integer> without = new ArrayList<>(order);
                while (!hopper.isEmpty()) {
                    Integer poorest = without.stream()
                            .min(Comparator.comparingInt(h -> heirs.get(h).sum())).orElseThrow();
                    without.remove(poorest);
                    heirs.get(poorest).bag.add(hopper.remove(0));
                    given++;
                }
            }
            if (given > 0) {
                order.add(order.remove(0));
                rounds++;
            }
            return given;
        }

        int divide() {
            int count = 0;
            while (round() > 0) {
                count++;
            }
            return count;
        }

        int inBags() {
            return heirs.stream().mapToInt(h -> h.bag.size()).sum();
        }

        int sumInBags() {
            return heirs.stream().mapToInt(Heir::sum).sum();
        }

        int fulfilled() {
            return heirs.stream().mapToInt(Heir::fulfilled).sum();
        }

        int spreadOfNumbers() {
            return heirs.isEmpty() ? 0 : heirs.stream().mapToInt(h -> h.bag.size()).max().getAsInt()
                    - heirs.stream().mapToInt(h -> h.bag.size()).min().getAsInt();
        }

        int spreadOfSums() {
            return heirs.isEmpty() ? 0 : heirs.stream().mapToInt(Heir::sum).max().getAsInt()
                    - heirs.stream().mapToInt(Heir::sum).min().getAsInt();
        }

        int who(int heir, int marble, int other, int place) {
            Heir first = heirs.get(heir);
            Heir second = heirs.get(other);
            int given = first.bag.get(marble).value();
            int got = second.bag.get(place).value();
            if (given - got > patience && vetoes[first.mother] > 0) {
                return first.mother;
            }
            if (got - given > patience && vetoes[second.mother] > 0) {
                return second.mother;
            }
            return NONE;
        }

        void exchange(int heir, int marble, int other, int place) {
            Marble given = heirs.get(heir).bag.get(marble);
            heirs.get(heir).bag.set(marble, heirs.get(other).bag.get(place));
            heirs.get(other).bag.set(place, given);
        }

        /** First heir, place, second heir, place, growth; or null. */
        int[] best() {
            List<int[]> found = new ArrayList<>();
            int before = fulfilled();
            for (int a = 0; a < heirs.size(); a++) {
                for (int b = a + 1; b < heirs.size(); b++) {
                    for (int i = 0; i < heirs.get(a).bag.size(); i++) {
                        for (int j = 0; j < heirs.get(b).bag.size(); j++) {
                            int apart = Math.abs(heirs.get(a).bag.get(i).value()
                                    - heirs.get(b).bag.get(j).value());
                            int mother = who(a, i, b, j);
                            exchange(a, i, b, j);
                            int growth = fulfilled() - before;
                            exchange(a, i, b, j);
                            if (growth >= 1 && mother == NONE) {
                                found.add(new int[] {a, i, b, j, growth, apart});
                            }
                        }
                    }
                }
            }
            return found.stream().min(Comparator.comparingInt((int[] s) -> -s[4])
                    .thenComparingInt(s -> s[5]).thenComparingInt(s -> s[0])
                    .thenComparingInt(s -> s[1]).thenComparingInt(s -> s[2])
                    .thenComparingInt(s -> s[3])).orElse(null);
        }
    }

    private World world = new World();
    private World saved = null;
    private final List<World> recorded = new ArrayList<>();
    private String buffer = "";

    private void record() {
        recorded.add(world.copy());
        if (recorded.size() > 5) {
            recorded.remove(0);
        }
    }

    private static boolean out(int number, int least, int most) {
        return number < least || number > most;
    }

    private boolean noHeir(int heir) {
        return out(heir, 0, world.heirs.size() - 1);
    }

    private boolean noMarble(int heir, int place) {
        return noHeir(heir) || out(place, 0, world.heirs.get(heir).bag.size() - 1);
    }

    /** The answer of the call with this number in the order of the document's face. */
    int answer(int call, int a, int b, int c, int d) {
        switch (call) {
            case 0: return come(a, b);
            case 1: return leave(a);
            case 2: return wish(a, b);
            case 3: return setRule(a);
            case 4: return setPatience(a);
            case 5: return grant(a, b);
            case 6: return drop(a, b);
            case 7: return round();
            case 8: return divide();
            case 9: return swap(a, b, c, d);
            case 10: return settle();
            case 11: return heir(a, b);
            case 12: return bag(a, b, c);
            case 13: return hopper(a, b);
            case 14: return out(a, 0, 3) ? NO_SUCH : world.vetoes[a];
            case 15: return out(a, 0, world.order.size() - 1) ? NO_SUCH : world.order.get(a);
            case 16: return total(a);
            case 17: return ifDivided(a, b);
            case 18: return fairestRule();
            case 19: return whoVetoes(a, b, c, d);
            case 20: return bestSwap(a);
            case 21: return append(a);
            case 22: return clearText();
            case 23: return errorPosition();
            case 24: return pour();
            case 25: return undo();
            case 26: return save();
            default: return restore();
        }
    }

    private int come(int mother, int wish) {
        if (out(mother, 0, 3)) return NO_SUCH;
        if (out(wish, 0, 5)) return BAD_VALUE;
        if (world.heirs.size() == 6) return LIMIT;
        record();
        Heir heir = new Heir();
        heir.mother = mother;
        heir.wish = wish;
        world.heirs.add(heir);
        world.order.add(world.heirs.size() - 1);
        return world.heirs.size() - 1;
    }

    private int leave(int heir) {
        if (noHeir(heir)) return NO_SUCH;
        List<Marble> bag = world.heirs.get(heir).bag;
        if (bag.size() + world.hopper.size() > 40) return LIMIT;
        record();
        world.hopper.addAll(bag);
        world.heirs.remove(heir);
        world.order.remove(Integer.valueOf(heir));
        world.order.replaceAll(h -> h > heir ? h - 1 : h);
        return bag.size();
    }

    private int wish(int heir, int colour) {
        if (noHeir(heir)) return NO_SUCH;
        if (out(colour, 0, 5)) return BAD_VALUE;
        record();
        world.heirs.get(heir).wish = colour;
        return world.heirs.get(heir).fulfilled();
    }

    private int setRule(int rule) {
        if (out(rule, 0, 2)) return BAD_VALUE;
        record();
        int before = world.rule;
        world.rule = rule;
        return before;
    }

    private int setPatience(int patience) {
        if (out(patience, 0, 8)) return BAD_VALUE;
        record();
        int before = world.patience;
        world.patience = patience;
        return before;
    }

    private int grant(int mother, int vetoes) {
        if (out(mother, 0, 3)) return NO_SUCH;
        if (out(vetoes, 0, 9)) return BAD_VALUE;
        record();
        int before = world.vetoes[mother];
        world.vetoes[mother] = vetoes;
        return before;
    }

    private boolean tooMany(int more) {
        int hopper = world.hopper.size() + more;
        return hopper > 40 || hopper + world.inBags() > 120;
    }

    private int drop(int colour, int value) {
        if (out(colour, 0, 5) || out(value, 1, 9)) return BAD_VALUE;
        if (tooMany(1)) return LIMIT;
        record();
        world.hopper.add(new Marble(colour, value));
        return world.hopper.size();
    }

    private int round() {
        if (world.heirs.isEmpty()) return NOT_POSSIBLE;
        record();
        return world.round();
    }

    private int divide() {
        if (world.heirs.isEmpty()) return NOT_POSSIBLE;
        record();
        return world.divide();
    }

    private int whoVetoes(int heir, int marble, int other, int place) {
        if (noMarble(heir, marble) || noMarble(other, place)) return NO_SUCH;
        if (heir == other) return BAD_VALUE;
        return world.who(heir, marble, other, place);
    }

    private int swap(int heir, int marble, int other, int place) {
        int mother = whoVetoes(heir, marble, other, place);
        if (mother == NO_SUCH || mother == BAD_VALUE) return mother;
        record();
        if (mother == NONE) {
            world.exchange(heir, marble, other, place);
            world.swaps++;
        } else {
            world.vetoes[mother]--;
            world.vetoed++;
        }
        return mother;
    }

    private int settle() {
        record();
        int count = 0;
        for (int[] s = world.best(); s != null; s = world.best()) {
            world.exchange(s[0], s[1], s[2], s[3]);
            world.swaps++;
            count++;
        }
        return count;
    }

    private int heir(int heir, int part) {
        if (noHeir(heir)) return NO_SUCH;
        Heir h = world.heirs.get(heir);
        switch (part) {
            case 0: return h.mother;
            case 1: return h.wish;
            case 2: return h.bag.size();
            case 3: return h.sum();
            case 4: return h.fulfilled();
            case 5: return world.order.indexOf(heir);
            default: return BAD_VALUE;
        }
    }

    private static int part(Marble marble, int part) {
        return part == 0 ? marble.colour() : part == 1 ? marble.value() : BAD_VALUE;
    }

    private int bag(int heir, int place, int part) {
        return noMarble(heir, place) ? NO_SUCH : part(world.heirs.get(heir).bag.get(place), part);
    }

    private int hopper(int place, int part) {
        boolean none = out(place, 0, world.hopper.size() - 1);
        return none ? NO_SUCH : part(world.hopper.get(place), part);
    }

    private int total(int what) {
        switch (what) {
            case 0: return world.heirs.size();
            case 1: return world.hopper.size();
            case 2: return world.inBags();
            case 3: return world.hopper.stream().mapToInt(Marble::value).sum();
            case 4: return world.sumInBags();
            case 5: return world.rounds;
            case 6: return world.swaps;
            case 7: return world.vetoed;
            case 8: return world.fulfilled();
            case 9: return world.spreadOfNumbers();
            case 10: return world.spreadOfSums();
            case 11: return world.rule;
            case 12: return world.patience;
            default: return BAD_VALUE;
        }
    }

    private int ifDivided(int heir, int part) {
        if (noHeir(heir)) return NO_SUCH;
        if (out(part, 0, 2)) return BAD_VALUE;
        World then = world.copy();
        then.divide();
        Heir h = then.heirs.get(heir);
        return part == 0 ? h.bag.size() : part == 1 ? h.sum() : h.fulfilled();
    }

    private int fairestRule() {
        if (world.heirs.isEmpty()) return NONE;
        int[] spreads = new int[3];
        for (int rule = 0; rule < 3; rule++) {
            World then = world.copy();
            then.rule = rule;
            then.divide();
            spreads[rule] = then.spreadOfSums();
        }
        int least = Math.min(spreads[0], Math.min(spreads[1], spreads[2]));
        return spreads[0] == least ? 0 : spreads[1] == least ? 1 : 2;
    }

    private int bestSwap(int part) {
        if (out(part, 0, 4)) return BAD_VALUE;
        int[] best = world.best();
        return best == null ? NONE : best[part];
    }

    private int append(int code) {
        if (out(code, 33, 126)) return BAD_VALUE;
        if (buffer.length() == 50) return LIMIT;
        buffer += (char) code;
        return buffer.length();
    }

    private int clearText() {
        int length = buffer.length();
        buffer = "";
        return length;
    }

    private static boolean beginsText(String start) {
        for (String rest : new String[] {"", "1", "r1"}) {
            if (TEXT.matcher(start + rest).matches()) {
                return true;
            }
        }
        return false;
    }

    private int errorPosition() {
        for (int i = 0; i < buffer.length(); i++) {
            if (!beginsText(buffer.substring(0, i + 1))) {
                return i;
            }
        }
        return TEXT.matcher(buffer).matches() ? NONE : buffer.length();
    }

    private int pour() {
        if (!TEXT.matcher(buffer).matches()) return BAD_TEXT;
        List<Marble> marbles = new ArrayList<>();
        for (Matcher item = ITEM.matcher(buffer); item.find(); ) {
            int number = item.group(1).isEmpty() ? 1 : Integer.parseInt(item.group(1));
            int colour = "rgbywk".indexOf(item.group(2));
            for (int i = 0; i < number; i++) {
                marbles.add(new Marble(colour, Integer.parseInt(item.group(3))));
            }
        }
        if (tooMany(marbles.size())) return LIMIT;
        record();
        world.hopper.addAll(marbles);
        buffer = "";
        return world.hopper.size();
    }

    private int undo() {
        if (recorded.isEmpty()) return NOT_POSSIBLE;
        world = recorded.remove(recorded.size() - 1);
        return recorded.size();
    }

    private int save() {
        saved = world.copy();
        return world.heirs.size();
    }

    private int restore() {
        if (saved == null) return NOT_POSSIBLE;
        record();
        world = saved.copy();
        return world.heirs.size();
    }
}
