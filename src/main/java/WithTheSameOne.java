/**
 * Dancers at a ball, where each new pair must have danced with the same one.
 * The words in capitals are those of the document, whose promises the public methods keep.
 *
 * A PAIR is held as the document writes it: 10 times the lesser dancer and the other.
 */
public final class WithTheSameOne {
    private static final int MOST_DANCERS = 8;
    private static final int MOST_LETTERS = 64;
    private static final int MOST_IN_ROW = 6;
    private static final int MOST_CARDS = 5;
    private static final int MOST_SEEDS = 40;
    private static final int MOST_WANTED = 3;
    private static final int MOST_ADDED = 3;
    private static final int MOST_PAIRS = 28;
    private static final int LAST_PAIR = 67;
    private static final int GREATEST_LETTER = 255;
    private static final int GREATEST_TOLD_PAIR = 99;

    private static final int PLAIN = 0;
    private static final int TIRED = 1;
    private static final int PROUD = 2;
    private static final int COUSIN = 3;
    private static final int SHY = 4;
    private static final int VAIN = 5;

    private static final int ONE = 0;
    private static final int TWO = 1;
    private static final int ELDER = 2;

    private static final int BY_NOBODY = 9;
    private static final int NONE = -9;

    private static final int NOBODY = -1;
    private static final int OTHER = -2;
    private static final int STATE = -3;
    private static final int BELOW = -4;
    private static final int ROOM = -6;

    private final Floor floor;
    private final Floor taken;
    private final Letters letters;
    private final Hopes hopes;
    private final Wishes wishes;
    private final Evening evening;
    private final int[] refusals;
    private boolean imageTaken;

    public WithTheSameOne() {
        floor = new Floor();
        taken = new Floor();
        letters = new Letters();
        hopes = new Hopes();
        wishes = new Wishes();
        evening = new Evening();
        refusals = new int[7];
        imageTaken = false;
    }

    public int feed(int letter) {
        if (letter < 0) {
            return refuse(BELOW);
        }
        if (letter > GREATEST_LETTER || letters.length >= MOST_LETTERS) {
            return refuse(ROOM);
        }
        return letters.append(letter);
    }

    public int ball() {
        return letters.tellAll(floor);
    }

    public int dancer(int dancer, int what) {
        if (!floor.isThere(dancer)) {
            return refuse(NOBODY);
        }
        switch (what) {
            case 0:
                return floor.kind[dancer];
            case 1:
                return floor.figure[dancer];
            case 2:
                return floor.brought[dancer];
            case 3:
                return Integer.bitCount(floor.partners[dancer]);
            default:
                return refuse(OTHER);
        }
    }

    public int law(int v) {
        if (!isLaw(v)) {
            return refuse(OTHER);
        }
        int before = floor.law;
        floor.law = v;
        return before;
    }

    public int danced(int one, int other) {
        if (!floor.areTwo(one, other)) {
            return refuse(NOBODY);
        }
        return asNumber(floor.haveDanced(one, other));
    }

    public int bringers(int one, int other) {
        if (!floor.areTwo(one, other)) {
            return refuse(NOBODY);
        }
        return floor.whoBring(one, other);
    }

    public int may(int one, int other) {
        if (!floor.areTwo(one, other)) {
            return refuse(NOBODY);
        }
        return asNumber(floor.isAllowed(one, other));
    }

    public int dance(int one, int other, int by) {
        if (!floor.areTwo(one, other)) {
            return refuse(NOBODY);
        }
        if (!floor.isAllowedBy(one, other, by)) {
            return refuse(STATE);
        }
        floor.step(one, other, by);
        return floor.pairsDanced();
    }

    public int night() {
        return floor.forgetBrought();
    }

    public int ever(int one, int other) {
        if (!floor.areTwo(one, other)) {
            return refuse(NOBODY);
        }
        return asNumber(hopes.isEver(floor, one, other));
    }

    public int round(int one, int other) {
        if (!floor.areTwo(one, other)) {
            return refuse(NOBODY);
        }
        return hopes.roundOf(floor, one, other);
    }

    public int closed(int what) {
        switch (what) {
            case 0:
                return hopes.pairsInTheEnd(floor, floor.law);
            case 1:
                return hopes.roundsTillTheEnd(floor);
            case 2:
                return floor.heaps();
            default:
                return refuse(OTHER);
        }
    }

    public int opens(int one, int other) {
        if (!floor.areTwo(one, other)) {
            return refuse(NOBODY);
        }
        if (floor.haveDanced(one, other)) {
            return refuse(STATE);
        }
        return hopes.opened(floor, one, other);
    }

    public int best() {
        return hopes.pairThatOpensMost(floor);
    }

    public int fewest(int what) {
        switch (what) {
            case 0:
                return hopes.fewestAdded(floor);
            case 1:
                return hopes.firstAdded(floor);
            default:
                return refuse(OTHER);
        }
    }

    public int wanted(int one, int other) {
        if (!floor.areTwo(one, other)) {
            return refuse(NOBODY);
        }
        return wishes.leastDances(floor, one, other);
    }

    public int off(int one, int other) {
        if (!floor.areTwo(one, other)) {
            return refuse(NOBODY);
        }
        return hopes.fewestWithout(floor, one, other);
    }

    public int worth(int dancer) {
        if (!floor.isThere(dancer)) {
            return refuse(NOBODY);
        }
        return hopes.lostWithoutBringer(floor, dancer);
    }

    public int byLaw(int law) {
        if (!isLaw(law)) {
            return refuse(OTHER);
        }
        return hopes.pairsInTheEnd(floor, law);
    }

    public int row(int pair) {
        if (pair < 0) {
            return refuse(BELOW);
        }
        if (pair > GREATEST_TOLD_PAIR || evening.size >= MOST_IN_ROW) {
            return refuse(ROOM);
        }
        return evening.append(pair);
    }

    public int judge() {
        return evening.firstWrong(floor);
    }

    public int load() {
        if (floor.law == TWO) {
            return refuse(STATE);
        }
        return evening.leastLoad(floor);
    }

    public int cards() {
        if (evening.size > MOST_CARDS) {
            return refuse(ROOM);
        }
        return evening.goodOrders(floor);
    }

    public int clear() {
        return evening.empty();
    }

    public int seeds(int n, int z) {
        if (n < 1) {
            return refuse(BELOW);
        }
        if (n > MOST_SEEDS) {
            return refuse(ROOM);
        }
        if (floor.size == 0) {
            return refuse(STATE);
        }
        return evening.pairsBySeed(floor, n, z);
    }

    public int image() {
        taken.copyFrom(floor);
        imageTaken = true;
        return floor.pairsDanced();
    }

    public int restore() {
        if (!imageTaken) {
            return refuse(STATE);
        }
        floor.copyFrom(taken);
        return floor.pairsDanced();
    }

    public int count(int what) {
        if (what >= 11 && what <= 16) {
            return refusals[what - 10];
        }
        switch (what) {
            case 0:
                return floor.size;
            case 1:
                return floor.pairsDanced();
            case 2:
                return floor.pairsAllowed();
            case 3:
                return floor.law;
            case 4:
                return floor.allBrought();
            case 5:
                return letters.length;
            case 6:
                return evening.size;
            default:
                return NONE;
        }
    }

    private int refuse(int number) {
        refusals[-number]++;
        return number;
    }

    private static int asNumber(boolean so) {
        return so ? 1 : 0;
    }

    private static boolean isLaw(int number) {
        return number >= ONE && number <= ELDER;
    }

    private static boolean hasBit(int bits, int place) {
        return (bits >> place & 1) != 0;
    }

    /** The least one of some, as bits; BY_NOBODY, if there is none or he is it. */
    private static int leastOf(int bits) {
        for (int by = 0; by < MOST_DANCERS; by++) {
            if (hasBit(bits, by)) {
                return by;
            }
        }
        return BY_NOBODY;
    }

    private static int pairOf(int one, int other) {
        return 10 * Math.min(one, other) + Math.max(one, other);
    }

    private static int lesserOf(int pair) {
        return pair / 10;
    }

    private static int greaterOf(int pair) {
        return pair % 10;
    }

    /** Who is there, who has DANCED with whom, and how things stand now, with KINDS. */
    private static final class Floor {
        int size;
        int law;
        final int[] kind;
        final int[] figure;
        final int[] brought;
        /** Of each dancer, as bits, with whom it has DANCED. */
        final int[] partners;

        Floor() {
            size = 0;
            law = ONE;
            kind = new int[MOST_DANCERS];
            figure = new int[MOST_DANCERS];
            brought = new int[MOST_DANCERS];
            partners = new int[MOST_DANCERS];
        }

        void copyFrom(Floor model) {
            size = model.size;
            law = model.law;
            for (int i = 0; i < MOST_DANCERS; i++) {
                kind[i] = model.kind[i];
                figure[i] = model.figure[i];
                brought[i] = model.brought[i];
                partners[i] = model.partners[i];
            }
        }

        boolean isThere(int number) {
            return number >= 0 && number < size;
        }

        boolean areTwo(int one, int other) {
            return isThere(one) && isThere(other) && one != other;
        }

        boolean isPair(int pair) {
            int one = lesserOf(pair);
            int other = greaterOf(pair);
            return one < other && areTwo(one, other);
        }

        boolean haveDanced(int one, int other) {
            return hasBit(partners[one], other);
        }

        boolean isDancedPair(int pair) {
            return isPair(pair) && haveDanced(lesserOf(pair), greaterOf(pair));
        }

        boolean isOpenPair(int pair) {
            return isPair(pair) && !haveDanced(lesserOf(pair), greaterOf(pair));
        }

        boolean areCousinsOfOneFigure(int one, int other) {
            return kind[one] == COUSIN && kind[other] == COUSIN && figure[one] == figure[other];
        }

        boolean admit(int newKind, int newFigure) {
            if (size >= MOST_DANCERS || newKind < PLAIN || newKind > VAIN) {
                return false;
            }
            kind[size] = newKind;
            figure[size] = newFigure;
            brought[size] = 0;
            partners[size] = 0;
            size++;
            return true;
        }

        boolean join(int one, int other) {
            if (!areTwo(one, other)) {
                return false;
            }
            partners[one] |= 1 << other;
            partners[other] |= 1 << one;
            return true;
        }

        boolean changeLaw(int newLaw) {
            if (!isLaw(newLaw)) {
                return false;
            }
            law = newLaw;
            return true;
        }

        /** Those who BRING two, as bits; by the LAW ELDER only those who count. */
        int whoBring(int one, int other) {
            int known = partners[one] & partners[other];
            int end = law == ELDER ? Math.min(one, other) : size;
            int bits = 0;
            for (int by = 0; by < end; by++) {
                if (hasBit(known, by) && isWilling(by, one, other)) {
                    bits |= 1 << by;
                }
            }
            return bits;
        }

        private boolean isWilling(int by, int one, int other) {
            boolean isFresh = brought[by] < figure[by];
            boolean isUnhurt = figure[by] != one && figure[by] != other;
            switch (kind[by]) {
                case TIRED:
                    return isFresh;
                case PROUD:
                    return isUnhurt;
                case SHY:
                    return isFresh && (isNextTo(by, one) || isNextTo(by, other));
                case VAIN:
                    return isUnhurt && Integer.bitCount(partners[by]) >= 3;
                default:
                    return true;
            }
        }

        private static boolean isNextTo(int number, int neighbour) {
            return number - neighbour == 1 || neighbour - number == 1;
        }

        /** By whom two MAY now, as bits, that of BY_NOBODY among them; 0, if they MAY not. */
        int waysToDance(int one, int other) {
            if (haveDanced(one, other)) {
                return 0;
            }
            int bringing = whoBring(one, other);
            if (areCousinsOfOneFigure(one, other)) {
                return bringing | 1 << BY_NOBODY;
            }
            int needed = law == TWO ? 2 : 1;
            return Integer.bitCount(bringing) >= needed ? bringing : 0;
        }

        boolean isAllowed(int one, int other) {
            return waysToDance(one, other) != 0;
        }

        boolean isAllowedBy(int one, int other, int by) {
            return by >= 0 && by <= BY_NOBODY && hasBit(waysToDance(one, other), by);
        }

        /** The DANCE of two who MAY, by one who has been looked at. */
        void step(int one, int other, int by) {
            if (isThere(by)) {
                int second = law == TWO ? leastOf(whoBring(one, other) & ~(1 << by)) : BY_NOBODY;
                brought[by]++;
                if (isThere(second)) {
                    brought[second]++;
                }
            }
            join(one, other);
        }

        /** The DANCE in mind, by the least BRINGER; false, if they are no two or MAY not. */
        boolean stepByLeast(int one, int other) {
            if (!areTwo(one, other)) {
                return false;
            }
            int ways = waysToDance(one, other);
            if (ways == 0) {
                return false;
            }
            step(one, other, leastOf(ways));
            return true;
        }

        int forgetBrought() {
            int had = 0;
            for (int i = 0; i < size; i++) {
                if (brought[i] > 0) {
                    had++;
                }
                brought[i] = 0;
            }
            return had;
        }

        int allBrought() {
            int all = 0;
            for (int i = 0; i < size; i++) {
                all += brought[i];
            }
            return all;
        }

        int pairsDanced() {
            int ends = 0;
            for (int i = 0; i < size; i++) {
                ends += Integer.bitCount(partners[i]);
            }
            return ends / 2;
        }

        int pairsAllowed() {
            int allowed = 0;
            for (int one = 0; one < size; one++) {
                for (int other = one + 1; other < size; other++) {
                    if (isAllowed(one, other)) {
                        allowed++;
                    }
                }
            }
            return allowed;
        }

        int heaps() {
            int seen = 0;
            int heaps = 0;
            for (int i = 0; i < size; i++) {
                if (!hasBit(seen, i)) {
                    heaps++;
                    seen |= heapOf(i);
                }
            }
            return heaps;
        }

        private int heapOf(int first) {
            int heap = 1 << first;
            // A way to the farthest one has fewer steps than there are dancers.
            for (int step = 1; step < size; step++) {
                int wider = heap;
                for (int i = 0; i < size; i++) {
                    if (hasBit(heap, i)) {
                        wider |= partners[i];
                    }
                }
                heap = wider;
            }
            return heap;
        }
    }

    /** What comes of a floor in the end (EVER): all are PLAIN ones, but COUSINS stay. */
    private static final class Ending {
        int size;
        int law;
        /** Who may BRING, as bits. */
        int helpers;
        int rounds;
        final int[] partners;
        final int[] next;
        /** Of each dancer, as bits, who is a COUSIN of the same FIGURE. */
        final int[] cousins;

        Ending() {
            size = 0;
            law = ONE;
            helpers = 0;
            rounds = 0;
            partners = new int[MOST_DANCERS];
            next = new int[MOST_DANCERS];
            cousins = new int[MOST_DANCERS];
        }

        void begin(Floor floor) {
            size = floor.size;
            law = floor.law;
            helpers = (1 << size) - 1;
            rounds = 0;
            for (int i = 0; i < size; i++) {
                partners[i] = floor.partners[i];
                cousins[i] = cousinsOf(floor, i);
            }
        }

        private static int cousinsOf(Floor floor, int one) {
            int bits = 0;
            for (int other = 0; other < floor.size; other++) {
                if (other != one && floor.areCousinsOfOneFigure(one, other)) {
                    bits |= 1 << other;
                }
            }
            return bits;
        }

        void copyFrom(Ending model) {
            size = model.size;
            law = model.law;
            helpers = model.helpers;
            rounds = model.rounds;
            for (int i = 0; i < MOST_DANCERS; i++) {
                partners[i] = model.partners[i];
                cousins[i] = model.cousins[i];
            }
        }

        boolean haveDanced(int one, int other) {
            return hasBit(partners[one], other);
        }

        void joinPair(int pair) {
            partners[lesserOf(pair)] |= 1 << greaterOf(pair);
            partners[greaterOf(pair)] |= 1 << lesserOf(pair);
        }

        void partPair(int pair) {
            partners[lesserOf(pair)] &= ~(1 << greaterOf(pair));
            partners[greaterOf(pair)] &= ~(1 << lesserOf(pair));
        }

        void settle() {
            // Every round but the last makes a pair, so there are never more.
            for (int i = 0; i <= MOST_PAIRS; i++) {
                if (!playRound()) {
                    return;
                }
            }
        }

        /** All who MAY as the round begins DANCE at once; whether anybody did. */
        boolean playRound() {
            for (int i = 0; i < size; i++) {
                next[i] = partners[i];
            }
            boolean any = false;
            for (int one = 0; one < size; one++) {
                for (int other = one + 1; other < size; other++) {
                    if (!haveDanced(one, other) && canCome(one, other)) {
                        next[one] |= 1 << other;
                        next[other] |= 1 << one;
                        any = true;
                    }
                }
            }
            for (int i = 0; i < size; i++) {
                partners[i] = next[i];
            }
            if (any) {
                rounds++;
            }
            return any;
        }

        private boolean canCome(int one, int other) {
            if (hasBit(cousins[one], other)) {
                return true;
            }
            int bringing = partners[one] & partners[other] & helpers;
            switch (law) {
                case TWO:
                    return Integer.bitCount(bringing) >= 2;
                case ELDER:
                    return (bringing & ((1 << Math.min(one, other)) - 1)) != 0;
                default:
                    return bringing != 0;
            }
        }

        int pairs() {
            int ends = 0;
            for (int i = 0; i < size; i++) {
                ends += Integer.bitCount(partners[i]);
            }
            return ends / 2;
        }

        boolean isFull() {
            return pairs() == size * (size - 1) / 2;
        }
    }

    /** What is asked about the end: each question begins anew from the floor. */
    private static final class Hopes {
        /** One ending for each pair that is added in mind, behind that of the floor itself. */
        final Ending[] ends;

        Hopes() {
            ends = new Ending[MOST_ADDED + 1];
            for (int i = 0; i <= MOST_ADDED; i++) {
                ends[i] = new Ending();
            }
        }

        private Ending settled(Floor floor) {
            Ending end = ends[0];
            end.begin(floor);
            end.settle();
            return end;
        }

        boolean isEver(Floor floor, int one, int other) {
            return settled(floor).haveDanced(one, other);
        }

        int roundOf(Floor floor, int one, int other) {
            Ending end = ends[0];
            end.begin(floor);
            for (int played = 0; played <= MOST_PAIRS; played++) {
                if (end.haveDanced(one, other)) {
                    return played;
                }
                if (!end.playRound()) {
                    return NONE;
                }
            }
            return NONE;
        }

        int pairsInTheEnd(Floor floor, int law) {
            Ending end = ends[0];
            end.begin(floor);
            end.law = law;
            end.settle();
            return end.pairs();
        }

        int roundsTillTheEnd(Floor floor) {
            return settled(floor).rounds;
        }

        int opened(Floor floor, int one, int other) {
            int before = settled(floor).pairs();
            return pairsWith(floor, pairOf(one, other)) - before;
        }

        private int pairsWith(Floor floor, int pair) {
            Ending end = ends[0];
            end.begin(floor);
            end.joinPair(pair);
            end.settle();
            return end.pairs();
        }

        int pairThatOpensMost(Floor floor) {
            int most = -1;
            int found = NONE;
            for (int pair = 1; pair <= LAST_PAIR; pair++) {
                if (floor.isOpenPair(pair)) {
                    int pairs = pairsWith(floor, pair);
                    if (pairs > most) {
                        most = pairs;
                        found = pair;
                    }
                }
            }
            return found;
        }

        int fewestAdded(Floor floor) {
            if (settled(floor).isFull()) {
                return 0;
            }
            for (int added = 1; added <= MOST_ADDED; added++) {
                if (firstOfSet(floor, 0, added, 1) != NONE) {
                    return added;
                }
            }
            return NONE;
        }

        int firstAdded(Floor floor) {
            if (settled(floor).isFull()) {
                return NONE;
            }
            for (int added = 1; added <= MOST_ADDED; added++) {
                int first = firstOfSet(floor, 0, added, 1);
                if (first != NONE) {
                    return first;
                }
            }
            return NONE;
        }

        /**
         * The least pair, from a given one on, that begins a set of so many pairs by which all
         * have DANCED, beside those that are added already.
         */
        private int firstOfSet(Floor floor, int level, int left, int from) {
            if (level >= MOST_ADDED) {
                return NONE;
            }
            Ending now = ends[level];
            Ending then = ends[level + 1];
            for (int pair = from; pair <= LAST_PAIR; pair++) {
                // Who come together anyway are never in a smallest set.
                if (floor.isPair(pair) && !now.haveDanced(lesserOf(pair), greaterOf(pair))) {
                    then.copyFrom(now);
                    then.joinPair(pair);
                    then.settle();
                    if (left <= 1 ? then.isFull() : firstOfSet(floor, level + 1, left - 1, pair + 1) != NONE) {
                        return pair;
                    }
                }
            }
            return NONE;
        }

        int fewestWithout(Floor floor, int one, int other) {
            if (!isEver(floor, one, other)) {
                return 0;
            }
            int pair = pairOf(one, other);
            for (int first = 1; first <= LAST_PAIR; first++) {
                if (floor.isDancedPair(first) && isNeverWithout(floor, pair, first, first)) {
                    return 1;
                }
            }
            for (int first = 1; first <= LAST_PAIR; first++) {
                if (floor.isDancedPair(first) && isNeverWithSecond(floor, pair, first)) {
                    return 2;
                }
            }
            return NONE;
        }

        private boolean isNeverWithSecond(Floor floor, int pair, int first) {
            for (int second = first + 1; second <= LAST_PAIR; second++) {
                if (floor.isDancedPair(second) && isNeverWithout(floor, pair, first, second)) {
                    return true;
                }
            }
            return false;
        }

        private boolean isNeverWithout(Floor floor, int pair, int first, int second) {
            Ending end = ends[0];
            end.begin(floor);
            end.partPair(first);
            end.partPair(second);
            end.settle();
            return !end.haveDanced(lesserOf(pair), greaterOf(pair));
        }

        int lostWithoutBringer(Floor floor, int number) {
            int before = settled(floor).pairs();
            Ending end = ends[0];
            end.begin(floor);
            end.helpers &= ~(1 << number);
            end.settle();
            return before - end.pairs();
        }
    }

    /** What a wanted pair takes, with KINDS and by whom one likes. */
    private static final class Wishes {
        /** The floor as it is before each of the dances in mind. */
        final Floor[] minds;
        int one;
        int other;

        Wishes() {
            minds = new Floor[MOST_WANTED];
            for (int i = 0; i < MOST_WANTED; i++) {
                minds[i] = new Floor();
            }
            one = 0;
            other = 0;
        }

        int leastDances(Floor floor, int wantedOne, int wantedOther) {
            if (floor.haveDanced(wantedOne, wantedOther)) {
                return 0;
            }
            one = wantedOne;
            other = wantedOther;
            minds[0].copyFrom(floor);
            for (int before = 0; before < MOST_WANTED; before++) {
                if (isReached(0, before)) {
                    return before + 1;
                }
            }
            return NONE;
        }

        /** Whether the wanted two MAY behind so many dances more. */
        private boolean isReached(int level, int before) {
            Floor now = minds[level];
            if (before <= 0 || level + 1 >= MOST_WANTED) {
                return now.isAllowed(one, other);
            }
            for (int pair = 1; pair <= LAST_PAIR; pair++) {
                if (now.isOpenPair(pair) && isReachedBy(pair, level, before)) {
                    return true;
                }
            }
            return false;
        }

        private boolean isReachedBy(int pair, int level, int before) {
            Floor now = minds[level];
            Floor then = minds[level + 1];
            int first = lesserOf(pair);
            int second = greaterOf(pair);
            int ways = now.waysToDance(first, second);
            for (int by = 0; by <= BY_NOBODY; by++) {
                if (hasBit(ways, by)) {
                    then.copyFrom(now);
                    then.step(first, second, by);
                    if (isReached(level + 1, before - 1)) {
                        return true;
                    }
                }
            }
            return false;
        }
    }

    /** A BALL told in letters. */
    private static final class Letters {
        int length;
        final int[] text;
        /** What the floor would be; it comes only without FAULT. */
        final Floor mind;

        Letters() {
            length = 0;
            text = new int[MOST_LETTERS];
            mind = new Floor();
        }

        int append(int letter) {
            if (length < MOST_LETTERS) {
                text[length] = letter;
                length++;
            }
            return length;
        }

        int tellAll(Floor floor) {
            int end = length;
            length = 0;
            int wrong = firstWrongLetter(end);
            if (wrong >= 0) {
                return -1000 - wrong;
            }
            mind.copyFrom(floor);
            int statements = 0;
            int place = 0;
            while (place < end) {
                if (!isCarriedOut(place)) {
                    return -2000 - place;
                }
                statements++;
                place += digitsBehind(place) + 2;
            }
            floor.copyFrom(mind);
            return statements;
        }

        /** The place of the first letter with which no BALL can go on; -1, if it is one. */
        private int firstWrongLetter(int end) {
            if (end == 0) {
                return 0;
            }
            int place = 0;
            while (place < end) {
                int digits = digitsBehind(place);
                if (digits == 0) {
                    return place;
                }
                place++;
                for (int i = 0; i < digits; i++) {
                    if (place >= end || text[place] < '0' || text[place] > '9') {
                        return place;
                    }
                    place++;
                }
                if (place >= end || text[place] != ';') {
                    return place;
                }
                place++;
            }
            return -1;
        }

        /** How many digits follow this first letter of a STATEMENT; 0, if none begins so. */
        private int digitsBehind(int place) {
            switch (text[place]) {
                case 'd':
                case 'p':
                    return 2;
                case 'l':
                    return 1;
                default:
                    return 0;
            }
        }

        private boolean isCarriedOut(int place) {
            switch (text[place]) {
                case 'd':
                    return mind.admit(digitAt(place + 1), digitAt(place + 2));
                case 'p':
                    return mind.join(digitAt(place + 1), digitAt(place + 2));
                default:
                    return mind.changeLaw(digitAt(place + 1));
            }
        }

        private int digitAt(int place) {
            return place < MOST_LETTERS ? text[place] - '0' : -1;
        }
    }

    /** A NIGHT: the told ROW, and the nights that are danced in mind. */
    private static final class Evening {
        int size;
        final int[] pairs;
        /** The floor as it is before each of the ROW, and behind the last. */
        final Floor[] minds;

        Evening() {
            size = 0;
            pairs = new int[MOST_IN_ROW];
            minds = new Floor[MOST_IN_ROW + 1];
            for (int i = 0; i <= MOST_IN_ROW; i++) {
                minds[i] = new Floor();
            }
        }

        int append(int pair) {
            if (size < MOST_IN_ROW) {
                pairs[size] = pair;
                size++;
            }
            return size;
        }

        int empty() {
            int had = size;
            size = 0;
            return had;
        }

        int firstWrong(Floor floor) {
            Floor mind = minds[0];
            mind.copyFrom(floor);
            for (int i = 0; i < size; i++) {
                if (!mind.stepByLeast(pairs[i] / 10, pairs[i] % 10)) {
                    return i;
                }
            }
            return NONE;
        }

        int leastLoad(Floor floor) {
            minds[0].copyFrom(floor);
            int tooMuch = size + 1;
            int least = leastLoadFrom(0, 0, tooMuch);
            return least < tooMuch ? least : NONE;
        }

        /** The least load with the ROW from this place on, if it is below a known one; else that. */
        private int leastLoadFrom(int place, int load, int known) {
            if (place >= size || place >= MOST_IN_ROW) {
                return load;
            }
            Floor now = minds[place];
            Floor then = minds[place + 1];
            int one = pairs[place] / 10;
            int other = pairs[place] % 10;
            if (!now.areTwo(one, other)) {
                return known;
            }
            int ways = now.waysToDance(one, other);
            // Who may dance by nobody take no bringer at all.
            int from = hasBit(ways, BY_NOBODY) ? BY_NOBODY : 0;
            int least = known;
            for (int by = from; by <= BY_NOBODY; by++) {
                if (hasBit(ways, by)) {
                    then.copyFrom(now);
                    then.step(one, other, by);
                    int more = Math.max(load, broughtTonight(then, by));
                    if (more < least) {
                        least = leastLoadFrom(place + 1, more, least);
                    }
                }
            }
            return least;
        }

        private int broughtTonight(Floor now, int by) {
            return now.isThere(by) ? now.brought[by] - minds[0].brought[by] : 0;
        }

        int goodOrders(Floor floor) {
            minds[0].copyFrom(floor);
            return goodOrdersFrom(0, 0);
        }

        /** In how many orders those of the ROW that are not used yet, as bits, can follow. */
        private int goodOrdersFrom(int level, int used) {
            if (level >= size || level >= MOST_IN_ROW) {
                return 1;
            }
            Floor then = minds[level + 1];
            int orders = 0;
            for (int i = 0; i < size; i++) {
                if (!hasBit(used, i)) {
                    then.copyFrom(minds[level]);
                    if (then.stepByLeast(pairs[i] / 10, pairs[i] % 10)) {
                        orders += goodOrdersFrom(level + 1, used | 1 << i);
                    }
                }
            }
            return orders;
        }

        int pairsBySeed(Floor floor, int times, int seed) {
            Floor mind = minds[0];
            mind.copyFrom(floor);
            int z = seed;
            for (int i = 0; i < times; i++) {
                z = nextSeed(z);
                int one = drawBelow(mind.size, z);
                z = nextSeed(z);
                int other = drawBelow(mind.size, z);
                mind.stepByLeast(one, other);
            }
            return mind.pairsDanced();
        }

        private static int nextSeed(int z) {
            return z * 1103515245 + 12345;
        }

        private static int drawBelow(int bound, int z) {
            return bound < 1 ? 0 : (z & 0x7fffffff) / 65536 % bound;
        }
    }
}
