import java.util.ArrayList;
import java.util.Arrays;
import java.util.HashMap;
import java.util.HashSet;
import java.util.List;
import java.util.Map;
import java.util.Random;
import java.util.Set;
import java.util.TreeSet;

/**
 * Long runs by fixed seeds against a slow second writing of the document, which tries
 * everything where the class is clever, and holds pairs in sets where the class has bits.
 */
public final class ReferenceTest {
    private static final int[] WILD = {Integer.MIN_VALUE, Integer.MIN_VALUE + 1, -1000, -33, -32, -31, -1, 8, 10, 31, 32,
        33, 64, 256, 1 << 16, Integer.MAX_VALUE - 1, Integer.MAX_VALUE};
    private static int wrong = 0;

    public static void main(String[] args) {
        int calls = 0;
        // More runs than these can be asked for by a number behind the name of the class.
        int runs = args.length > 0 ? Integer.parseInt(args[0]) : 1000;
        for (int seed = 0; seed < runs; seed++) {
            calls += run(seed);
        }
        System.out.println(calls + " calls, " + wrong + " answers are not as due");
        if (wrong != 0) {
            System.exit(1);
        }
    }

    private static int run(int seed) {
        Random random = new Random(seed);
        WithTheSameOne object = new WithTheSameOne();
        Model model = new Model();
        List<String> told = new ArrayList<>();
        int calls = 0;
        while (calls < 240) {
            for (int[] call : next(random, model, calls)) {
                int got = ask(object, call);
                int due = model.answer(call);
                told.add(Arrays.toString(call) + " " + got);
                calls++;
                if (got != due) {
                    wrong++;
                    System.out.println("run " + seed + ": " + told + ", due is " + due);
                    return calls;
                }
            }
        }
        return calls;
    }

    private static List<int[]> next(Random random, Model model, int calls) {
        if (calls == 0 && random.nextInt(8) != 0) {
            return scene(random);
        }
        if (model.kinds.size() < 2 || random.nextInt(30) == 0) {
            return told(statements(random, model));
        }
        if (random.nextInt(6) == 0) {
            return someDance(random, model);
        }
        if (random.nextInt(12) == 0) {
            return someNight(random, model);
        }
        int[] call = someCall(random, model.kinds.size());
        return List.of(random.nextInt(30) == 0 ? withAWildNumber(random, call) : call);
    }

    private static List<int[]> told(String text) {
        List<int[]> calls = new ArrayList<>();
        for (int i = 0; i < text.length(); i++) {
            calls.add(new int[] {0, text.charAt(i)});
        }
        calls.add(new int[] {1});
        return calls;
    }

    /** Dancers first, then pairs of these, so that much can happen. */
    private static List<int[]> scene(Random random) {
        int size = 4 + random.nextInt(5);
        StringBuilder dancers = new StringBuilder();
        for (int i = 0; i < size; i++) {
            int kind = random.nextInt(6);
            dancers.append('d').append(kind).append(figure(random, kind)).append(';');
        }
        StringBuilder pairs = new StringBuilder();
        int law = random.nextInt(5);
        if (law < 3) {
            pairs.append('l').append(law).append(';');
        }
        int many = random.nextInt(2 * size);
        for (int i = 0; i < many && pairs.length() < 60; i++) {
            int one = random.nextInt(size);
            pairs.append('p').append(one).append((one + 1 + random.nextInt(size - 1)) % size).append(';');
        }
        List<int[]> calls = told(dancers.toString());
        calls.addAll(told(pairs.toString()));
        return calls;
    }

    private static List<int[]> someDance(Random random, Model model) {
        List<int[]> dances = new ArrayList<>();
        for (int pair : model.allPairs()) {
            for (int by : model.choices(model.now, pair / 10, pair % 10)) {
                dances.add(random.nextBoolean() ? new int[] {7, pair / 10, pair % 10, by} : new int[] {7, pair % 10, pair / 10, by});
            }
        }
        return dances.isEmpty() ? List.of() : List.of(dances.get(random.nextInt(dances.size())));
    }

    /** A ROW that could be danced by somebody, and what is asked of it. */
    private static List<int[]> someNight(Random random, Model model) {
        List<int[]> calls = new ArrayList<>();
        calls.add(new int[] {23});
        State state = model.now.copy();
        int many = 1 + random.nextInt(6);
        for (int i = 0; i < many; i++) {
            List<Integer> open = new ArrayList<>();
            for (int pair : model.allPairs()) {
                if (model.may(state, pair / 10, pair % 10)) open.add(pair);
            }
            if (open.isEmpty()) break;
            int pair = open.get(random.nextInt(open.size()));
            List<Integer> by = model.choices(state, pair / 10, pair % 10);
            model.dance(state, pair / 10, pair % 10, by.get(random.nextInt(by.size())));
            calls.add(new int[] {19, random.nextBoolean() ? pair : 10 * (pair % 10) + pair / 10});
        }
        for (int what = 20; what < 23; what++) {
            calls.add(new int[] {what});
        }
        return calls;
    }

    private static int[] someCall(Random random, int size) {
        int what = random.nextInt(31);
        int one = number(random, size);
        int other = number(random, size);
        switch (what) {
            case 0:
                return new int[] {0, random.nextInt(20) == 0 ? random.nextInt(300) - 20 : "dpl;0123456789".charAt(random.nextInt(14))};
            case 2:
                return new int[] {2, one, random.nextInt(6) - 1};
            case 3:
                return new int[] {3, random.nextInt(3) == 0 ? random.nextInt(6) - 1 : 0};
            case 11: case 14: case 18:
                return new int[] {what, random.nextInt(6) - 1};
            case 7: case 29: case 30:
                return new int[] {7, one, other, random.nextInt(12) - 1};
            case 19:
                return new int[] {19, random.nextInt(15) == 0 ? random.nextInt(110) - 5 : 10 * random.nextInt(size) + random.nextInt(size)};
            case 24:
                return new int[] {24, random.nextInt(44) - 1, random.nextInt()};
            case 27:
                return new int[] {27, random.nextInt(20) - 1};
            default:
                return new int[] {what, one, other};
        }
    }

    /** A call with one of its numbers far out of range. */
    private static int[] withAWildNumber(Random random, int[] call) {
        if (call.length > 1) {
            call[1 + random.nextInt(call.length - 1)] = WILD[random.nextInt(WILD.length)];
        }
        return call;
    }

    private static int figure(Random random, int kind) {
        if (kind == 3) {
            return random.nextInt(2);
        }
        return random.nextInt(random.nextInt(3) == 0 ? 10 : 4);
    }

    private static int number(Random random, int size) {
        return random.nextInt(25) == 0 ? random.nextInt(12) - 2 : random.nextInt(size);
    }

    private static String statements(Random random, Model model) {
        StringBuilder text = new StringBuilder();
        int size = model.kinds.size();
        if (random.nextInt(2) == 0) {
            int more = random.nextInt(9);
            for (int i = 0; i < more; i++) {
                int kind = random.nextInt(60) == 0 ? random.nextInt(10) : random.nextInt(6);
                text.append('d').append(kind).append(figure(random, kind)).append(';');
                size++;
            }
        }
        int pairs = random.nextInt(5);
        for (int i = 0; i < pairs && size > 1; i++) {
            int one = random.nextInt(Math.min(10, size));
            int other = random.nextInt(Math.min(10, size));
            if (one != other || random.nextInt(10) == 0) {
                text.append('p').append(one).append(other).append(';');
            }
        }
        if (random.nextInt(4) == 0) {
            text.append('l').append(random.nextInt(9) == 0 ? 3 + random.nextInt(7) : random.nextInt(3)).append(';');
        }
        if (text.length() > 0 && random.nextInt(6) == 0) {
            int place = random.nextInt(text.length());
            switch (random.nextInt(3)) {
                case 0 -> text.deleteCharAt(place);
                case 1 -> text.setCharAt(place, "dpl;059x".charAt(random.nextInt(8)));
                default -> text.setLength(place);
            }
        }
        return text.toString();
    }

    private static int ask(WithTheSameOne x, int[] c) {
        return switch (c[0]) {
            case 0 -> x.feed(c[1]);
            case 1 -> x.ball();
            case 2 -> x.dancer(c[1], c[2]);
            case 3 -> x.law(c[1]);
            case 4 -> x.danced(c[1], c[2]);
            case 5 -> x.bringers(c[1], c[2]);
            case 6 -> x.may(c[1], c[2]);
            case 7 -> x.dance(c[1], c[2], c[3]);
            case 8 -> x.night();
            case 9 -> x.ever(c[1], c[2]);
            case 10 -> x.round(c[1], c[2]);
            case 11 -> x.closed(c[1]);
            case 12 -> x.opens(c[1], c[2]);
            case 13 -> x.best();
            case 14 -> x.fewest(c[1]);
            case 15 -> x.wanted(c[1], c[2]);
            case 16 -> x.off(c[1], c[2]);
            case 17 -> x.worth(c[1]);
            case 18 -> x.byLaw(c[1]);
            case 19 -> x.row(c[1]);
            case 20 -> x.judge();
            case 21 -> x.load();
            case 22 -> x.cards();
            case 23 -> x.clear();
            case 24 -> x.seeds(c[1], c[2]);
            case 25 -> x.image();
            case 26 -> x.restore();
            case 27 -> x.count(c[1]);
            default -> x.count(2);
        };
    }

    /** What can be on the floor; a pair is 10 times the lesser and the other. */
    private static final class State {
        final Set<Integer> pairs = new TreeSet<>();
        final int[] brought = new int[8];
        int law;

        State copy() {
            State copy = new State();
            copy.pairs.addAll(pairs);
            System.arraycopy(brought, 0, copy.brought, 0, 8);
            copy.law = law;
            return copy;
        }

        String name() {
            return pairs + Arrays.toString(brought);
        }
    }

    private static final class Model {
        List<Integer> kinds = new ArrayList<>();
        List<Integer> figures = new ArrayList<>();
        State now = new State();
        List<Integer> imageKinds;
        List<Integer> imageFigures;
        State image;
        final StringBuilder letters = new StringBuilder();
        final List<Integer> row = new ArrayList<>();
        final Map<Integer, Integer> refusals = new HashMap<>();

        int answer(int[] c) {
            int answer = tell(c);
            boolean isFault = c[0] == 1;
            if (!isFault && answer >= -6 && answer <= -1) {
                refusals.merge(answer, 1, Integer::sum);
            }
            return answer;
        }

        private int tell(int[] c) {
            boolean two = Set.of(4, 5, 6, 7, 9, 10, 12, 15, 16).contains(c[0]);
            if (two && (!there(c[1]) || !there(c[2]) || c[1] == c[2])) {
                return -1;
            }
            int pair = two ? code(c[1], c[2]) : 0;
            switch (c[0]) {
                case 0:
                    if (c[1] < 0) return -4;
                    if (c[1] > 255 || letters.length() == 64) return -6;
                    letters.append((char) c[1]);
                    return letters.length();
                case 1:
                    return ball();
                case 2:
                    if (!there(c[1])) return -1;
                    if (c[2] == 0) return kinds.get(c[1]);
                    if (c[2] == 1) return figures.get(c[1]);
                    if (c[2] == 2) return now.brought[c[1]];
                    return c[2] == 3 ? known(now, c[1]).size() : -2;
                case 3:
                    if (c[1] < 0 || c[1] > 2) return -2;
                    int was = now.law;
                    now.law = c[1];
                    return was;
                case 4:
                    return now.pairs.contains(pair) ? 1 : 0;
                case 5:
                    return bringers(now, c[1], c[2]).stream().mapToInt(b -> 1 << b).sum();
                case 6:
                    return may(now, c[1], c[2]) ? 1 : 0;
                case 7:
                    if (!choices(now, c[1], c[2]).contains(c[3])) return -3;
                    dance(now, c[1], c[2], c[3]);
                    return now.pairs.size();
                case 8:
                    int had = 0;
                    for (int i = 0; i < 8; i++) {
                        if (now.brought[i] != 0) had++;
                        now.brought[i] = 0;
                    }
                    return had;
                case 9:
                    return end(now.pairs, now.law, -1).contains(pair) ? 1 : 0;
                case 10:
                    return round(pair);
                case 11:
                    if (c[1] == 0) return end(now.pairs, now.law, -1).size();
                    if (c[1] == 1) return last();
                    return c[1] == 2 ? heaps() : -2;
                case 12:
                    return now.pairs.contains(pair) ? -3 : opens(pair);
                case 13:
                    return best();
                case 14:
                    if (c[1] != 0 && c[1] != 1) return -2;
                    return fewest(c[1]);
                case 15:
                    return wanted(pair);
                case 16:
                    return off(pair);
                case 17:
                    if (!there(c[1])) return -1;
                    return end(now.pairs, now.law, -1).size() - end(now.pairs, now.law, c[1]).size();
                case 18:
                    return c[1] < 0 || c[1] > 2 ? -2 : end(now.pairs, c[1], -1).size();
                case 19:
                    if (c[1] < 0) return -4;
                    if (c[1] > 99 || row.size() == 6) return -6;
                    row.add(c[1]);
                    return row.size();
                case 20:
                    return judged(row);
                case 21:
                    return now.law == 1 ? -3 : load(now.copy(), 0, new int[8]);
                case 22:
                    return row.size() > 5 ? -6 : cards(new ArrayList<>(), new HashSet<>());
                case 23:
                    int size = row.size();
                    row.clear();
                    return size;
                case 24:
                    if (c[1] < 1) return -4;
                    if (c[1] > 40) return -6;
                    return kinds.isEmpty() ? -3 : seeds(c[1], c[2]);
                case 25:
                    image = now.copy();
                    imageKinds = new ArrayList<>(kinds);
                    imageFigures = new ArrayList<>(figures);
                    return now.pairs.size();
                case 26:
                    if (image == null) return -3;
                    now = image.copy();
                    kinds = new ArrayList<>(imageKinds);
                    figures = new ArrayList<>(imageFigures);
                    return now.pairs.size();
                case 27:
                    return count(c[1]);
                default:
                    return count(2);
            }
        }

        private int count(int what) {
            switch (what) {
                case 0: return kinds.size();
                case 1: return now.pairs.size();
                case 2: return (int) allPairs().stream().filter(p -> may(now, p / 10, p % 10)).count();
                case 3: return now.law;
                case 4: return Arrays.stream(now.brought).sum();
                case 5: return letters.length();
                case 6: return row.size();
                case 11: case 12: case 13: case 14: case 15: case 16:
                    return refusals.getOrDefault(10 - what, 0);
                default: return -9;
            }
        }

        private boolean there(int number) {
            return number >= 0 && number < kinds.size();
        }

        private static int code(int one, int other) {
            return one < other ? 10 * one + other : 10 * other + one;
        }

        private List<Integer> allPairs() {
            List<Integer> all = new ArrayList<>();
            for (int one = 0; one < kinds.size(); one++) {
                for (int other = one + 1; other < kinds.size(); other++) {
                    all.add(10 * one + other);
                }
            }
            return all;
        }

        private Set<Integer> known(State state, int number) {
            Set<Integer> known = new TreeSet<>();
            for (int i = 0; i < kinds.size(); i++) {
                if (i != number && state.pairs.contains(code(i, number))) known.add(i);
            }
            return known;
        }

        private boolean brings(State state, int by, int one, int other) {
            if (by == one || by == other) return false;
            if (!state.pairs.contains(code(by, one)) || !state.pairs.contains(code(by, other))) return false;
            int kind = kinds.get(by);
            int figure = figures.get(by);
            if ((kind == 1 || kind == 4) && state.brought[by] >= figure) return false;
            if ((kind == 2 || kind == 5) && (one == figure || other == figure)) return false;
            if (kind == 4 && Math.abs(by - one) != 1 && Math.abs(by - other) != 1) return false;
            return kind != 5 || known(state, by).size() > 2;
        }

        private List<Integer> bringers(State state, int one, int other) {
            List<Integer> bringers = new ArrayList<>();
            for (int by = 0; by < kinds.size(); by++) {
                boolean counts = state.law != 2 || by < one && by < other;
                if (counts && brings(state, by, one, other)) bringers.add(by);
            }
            return bringers;
        }

        private boolean cousins(int one, int other) {
            return kinds.get(one) == 3 && kinds.get(other) == 3 && figures.get(one).intValue() == figures.get(other).intValue();
        }

        private boolean may(State state, int one, int other) {
            if (state.pairs.contains(code(one, other))) return false;
            return cousins(one, other) || bringers(state, one, other).size() > (state.law == 1 ? 1 : 0);
        }

        private List<Integer> choices(State state, int one, int other) {
            List<Integer> choices = new ArrayList<>();
            if (may(state, one, other)) {
                choices.addAll(bringers(state, one, other));
                if (cousins(one, other)) choices.add(9);
            }
            return choices;
        }

        private void dance(State state, int one, int other, int by) {
            List<Integer> bringers = bringers(state, one, other);
            state.pairs.add(code(one, other));
            if (by == 9) return;
            state.brought[by]++;
            bringers.remove(Integer.valueOf(by));
            if (state.law == 1 && !bringers.isEmpty()) state.brought[bringers.get(0)]++;
        }

        private int ball() {
            String text = letters.toString();
            letters.setLength(0);
            for (int length = 0; length <= text.length(); length++) {
                boolean isEnd = length == text.length();
                String head = text.substring(0, isEnd ? length : length + 1);
                if (isEnd) {
                    if (!text.matches("(?s)([dp][0-9][0-9];|l[0-9];)+")) return -1000 - length;
                } else if (!head.matches("(?s)([dp][0-9][0-9];|l[0-9];)*([dp][0-9]?[0-9]?|l[0-9]?)?")) {
                    return -1000 - length;
                }
            }
            State state = now.copy();
            List<Integer> newKinds = new ArrayList<>(kinds);
            List<Integer> newFigures = new ArrayList<>(figures);
            int place = 0;
            String[] statements = text.split(";");
            for (String s : statements) {
                int first = s.charAt(1) - '0';
                int second = s.length() > 2 ? s.charAt(2) - '0' : 0;
                if (s.charAt(0) == 'd') {
                    if (first > 5 || newKinds.size() == 8) return -2000 - place;
                    newKinds.add(first);
                    newFigures.add(second);
                } else if (s.charAt(0) == 'p') {
                    if (first >= newKinds.size() || second >= newKinds.size() || first == second) return -2000 - place;
                    state.pairs.add(code(first, second));
                } else {
                    if (first > 2) return -2000 - place;
                    state.law = first;
                }
                place += s.length() + 1;
            }
            now = state;
            kinds = newKinds;
            figures = newFigures;
            return statements.length;
        }

        private Set<Integer> nextRound(Set<Integer> pairs, int law, int barred) {
            Set<Integer> next = new TreeSet<>(pairs);
            for (int pair : allPairs()) {
                int bringing = 0;
                for (int by = 0; by < kinds.size(); by++) {
                    boolean counts = by != barred && (law != 2 || by < pair / 10);
                    if (counts && by != pair / 10 && by != pair % 10 && pairs.contains(code(by, pair / 10)) && pairs.contains(code(by, pair % 10))) bringing++;
                }
                if (cousins(pair / 10, pair % 10) || bringing > (law == 1 ? 1 : 0)) next.add(pair);
            }
            return next;
        }

        private Set<Integer> end(Set<Integer> pairs, int law, int barred) {
            Set<Integer> current = pairs;
            while (true) {
                Set<Integer> next = nextRound(current, law, barred);
                if (next.size() == current.size()) return next;
                current = next;
            }
        }

        private int round(int pair) {
            Set<Integer> current = now.pairs;
            for (int round = 0; round < 40; round++) {
                if (current.contains(pair)) return round;
                current = nextRound(current, now.law, -1);
            }
            return -9;
        }

        private int last() {
            int last = 0;
            for (int pair : allPairs()) last = Math.max(last, round(pair));
            return last;
        }

        private int heaps() {
            int[] heap = new int[8];
            for (int i = 0; i < 8; i++) heap[i] = i;
            for (int pair : now.pairs) {
                int from = heap[pair / 10];
                int to = heap[pair % 10];
                for (int i = 0; i < 8; i++) if (heap[i] == from) heap[i] = to;
            }
            return (int) Arrays.stream(heap).limit(kinds.size()).distinct().count();
        }

        private Set<Integer> with(int... pairs) {
            Set<Integer> more = new TreeSet<>(now.pairs);
            for (int pair : pairs) more.add(pair);
            return end(more, now.law, -1);
        }

        private int opens(int pair) {
            return with(pair).size() - with().size();
        }

        private int best() {
            int best = -9;
            for (int pair : allPairs()) {
                if (!now.pairs.contains(pair) && (best == -9 || opens(pair) > opens(best))) best = pair;
            }
            return best;
        }

        private int fewest(int what) {
            List<Integer> all = allPairs();
            if (with().size() == all.size()) return what == 0 ? 0 : -9;
            for (int a : all) {
                if (with(a).size() == all.size()) return what == 0 ? 1 : a;
            }
            for (int a : all) {
                for (int b : all) {
                    if (a < b && !now.pairs.contains(a) && with(a, b).size() == all.size()) return what == 0 ? 2 : a;
                }
            }
            for (int a : all) {
                for (int b : all) {
                    for (int c : all) {
                        if (a < b && b < c && !now.pairs.contains(a) && !now.pairs.contains(b) && !now.pairs.contains(c) && with(a, b, c).size() == all.size()) return what == 0 ? 3 : a;
                    }
                }
            }
            return -9;
        }

        private int wanted(int pair) {
            List<State> states = List.of(now);
            for (int dances = 0; dances <= 3; dances++) {
                for (State state : states) {
                    if (state.pairs.contains(pair)) return dances;
                }
                if (dances == 3) break;
                Map<String, State> next = new HashMap<>();
                for (State state : states) {
                    for (int p : allPairs()) {
                        for (int by : choices(state, p / 10, p % 10)) {
                            State then = state.copy();
                            dance(then, p / 10, p % 10, by);
                            next.put(then.name(), then);
                        }
                    }
                }
                states = new ArrayList<>(next.values());
            }
            return -9;
        }

        private boolean never(int pair, int first, int second) {
            Set<Integer> fewer = new TreeSet<>(now.pairs);
            fewer.remove(first);
            fewer.remove(second);
            return !end(fewer, now.law, -1).contains(pair);
        }

        private int off(int pair) {
            if (never(pair, -1, -1)) return 0;
            for (int first : now.pairs) if (never(pair, first, -1)) return 1;
            for (int first : now.pairs) {
                for (int second : now.pairs) if (never(pair, first, second)) return 2;
            }
            return -9;
        }

        private boolean judgedStep(State state, int pair) {
            int one = pair / 10;
            int other = pair % 10;
            if (!there(one) || !there(other) || one == other || !may(state, one, other)) return false;
            List<Integer> bringers = bringers(state, one, other);
            dance(state, one, other, bringers.isEmpty() ? 9 : bringers.get(0));
            return true;
        }

        private int judged(List<Integer> pairs) {
            State state = now.copy();
            for (int i = 0; i < pairs.size(); i++) {
                if (!judgedStep(state, pairs.get(i))) return i;
            }
            return -9;
        }

        private int load(State state, int place, int[] loads) {
            if (place == row.size()) return Arrays.stream(loads).max().getAsInt();
            int one = row.get(place) / 10;
            int other = row.get(place) % 10;
            if (!there(one) || !there(other) || one == other) return -9;
            int least = -9;
            List<Integer> choices = choices(state, one, other);
            if (choices.contains(9)) choices = List.of(9);
            for (int by : choices) {
                State then = state.copy();
                dance(then, one, other, by);
                int[] more = loads.clone();
                if (by != 9) more[by]++;
                int found = load(then, place + 1, more);
                if (found != -9 && (least == -9 || found < least)) least = found;
            }
            return least;
        }

        private int cards(List<Integer> order, Set<Integer> used) {
            if (order.size() == row.size()) return judged(order) == -9 ? 1 : 0;
            int orders = 0;
            for (int i = 0; i < row.size(); i++) {
                if (used.add(i)) {
                    order.add(row.get(i));
                    orders += cards(order, used);
                    order.remove(order.size() - 1);
                    used.remove(i);
                }
            }
            return orders;
        }

        private int seeds(int n, int z) {
            State state = now.copy();
            int seed = z;
            for (int i = 0; i < n; i++) {
                int[] two = new int[2];
                for (int k = 0; k < 2; k++) {
                    seed = (int) (seed * 1103515245L + 12345L);
                    two[k] = ((seed >>> 16) & 32767) % kinds.size();
                }
                judgedStep(state, 10 * two[0] + two[1]);
            }
            return state.pairs.size();
        }
    }
}
