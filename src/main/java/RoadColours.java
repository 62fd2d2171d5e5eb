/**
 * A bench for nets of posts and roads whose roads get numbers so that no two at a post are alike.
 * Sets of roads, posts and numbers are held as bits of an int throughout.
 */
public final class RoadColours {
    private static final int REFUSED = -2;
    private static final int NONE = -1;
    private static final int MOST_POSTS = 12;
    private static final int MOST_ROADS = 24;
    private static final int NUMBERS = 16;
    private static final int ALL_NUMBERS = (1 << NUMBERS) - 1;
    private static final int LEAST_HEAP = 3;
    private static final int MOST_SEARCHED = 12;
    private static final int MOST_LISTED = 8;
    private static final int MOST_COUNTED = 9;
    private static final int LEAST_SIDE = 2;
    private static final int MOST_SIDE = 9;
    private static final int LEAST_MEETERS = 2;
    private static final int MOST_MEETERS = 20;

    private final Net net;
    private final Square held;
    // These three have long rows, which most objects never need: each is made when it is first asked.
    private Heaps heapsOfNet;
    private Picker pickerOfNet;
    private Tally tallyOfNet;

    public RoadColours() {
        net = new Net();
        held = new Square();
    }

    public int post() {
        if (net.postCount >= MOST_POSTS) {
            return REFUSED;
        }
        return net.addPost();
    }

    public int road(int a, int b) {
        if (!net.hasPost(a) || !net.hasPost(b) || a == b || net.roadCount >= MOST_ROADS) {
            return REFUSED;
        }
        return net.addRoad(a, b);
    }

    public int drop() {
        if (net.roadCount == 0) {
            return REFUSED;
        }
        return net.removeLatest();
    }

    public int paint(int r, int n) {
        if (!net.hasRoad(r) || n < NONE || n >= NUMBERS) {
            return REFUSED;
        }
        int had = net.number[r];
        net.number[r] = n;
        return had;
    }

    public int wash() {
        int had = net.numberedRoads();
        net.forgetNumbers();
        return had;
    }

    public int of(int r, int what) {
        if (!net.hasRoad(r)) {
            return REFUSED;
        }
        switch (what) {
            case 0:
                return net.first[r];
            case 1:
                return net.second[r];
            case 2:
                return net.number[r];
            case 3:
                return net.allowed[r];
            default:
                return REFUSED;
        }
    }

    public int roads(int p) {
        if (!net.hasPost(p)) {
            return REFUSED;
        }
        return Integer.bitCount(net.at[p]);
    }

    public int free(int p) {
        if (!net.hasPost(p)) {
            return REFUSED;
        }
        return net.leastFree(p);
    }

    public int clash() {
        return net.leastClashing();
    }

    public int chain(int r, int x, int y) {
        if (!hasChain(r, x, y)) {
            return REFUSED;
        }
        return Integer.bitCount(net.chainOf(r, x, y));
    }

    public int swap(int r, int x, int y) {
        if (!hasChain(r, x, y)) {
            return REFUSED;
        }
        int chain = net.chainOf(r, x, y);
        net.exchange(chain, x, y);
        return Integer.bitCount(chain);
    }

    public int mend(int r) {
        if (!net.hasRoad(r) || net.number[r] != NONE || net.leastClashing() != NONE
                || net.greatestNumber() > net.fullest() || !net.isPlain()) {
            return REFUSED;
        }
        return new Fan(net, r).mendRoad();
    }

    public int heaps() {
        return asBit(net.isInTwoHeaps());
    }

    public int two() {
        int full = net.fullest();
        if (!net.isInTwoHeaps() || full > NUMBERS) {
            return REFUSED;
        }
        net.colourTwoHeaps(full);
        return full;
    }

    public int even(int n) {
        if (n < 1 || n > NUMBERS || net.numberedRoads() < net.roadCount || net.greatestNumber() >= n
                || net.leastClashing() != NONE) {
            return REFUSED;
        }
        return new Evener(net, n).makeEven();
    }

    public int full(int what) {
        switch (what) {
            case 0:
                return net.fullest();
            case 1:
                return Math.max(net.fullest(), heapsHere().greatestNeed());
            case 2:
                return asBit(net.isPlain());
            case 3:
                return net.numberedRoads();
            default:
                return REFUSED;
        }
    }

    public int least() {
        if (net.roadCount > MOST_SEARCHED) {
            return REFUSED;
        }
        return pickerHere().fewestNumbers();
    }

    public int first(int n) {
        if (n < 0 || n > NUMBERS || net.roadCount > MOST_SEARCHED) {
            return REFUSED;
        }
        Picker picker = pickerHere();
        picker.allowBelow(n);
        return asBit(picker.pickFirst());
    }

    public long count(int n) {
        if (n < 0 || n > MOST_COUNTED || net.roadCount > MOST_SEARCHED) {
            return REFUSED;
        }
        if (tallyOfNet == null) {
            tallyOfNet = new Tally(net);
        }
        return tallyOfNet.colourings(n);
    }

    public int critical() {
        if (net.roadCount > MOST_SEARCHED) {
            return REFUSED;
        }
        return asBit(pickerHere().isCritical());
    }

    public int need(int heap) {
        if ((heap & ~net.allPosts()) != 0 || Integer.bitCount(heap) < LEAST_HEAP) {
            return REFUSED;
        }
        return needFor(net.roadsInside(heap), Integer.bitCount(heap));
    }

    public int heap() {
        return heapsHere().neediest();
    }

    public int list(int r, int list) {
        if (!net.hasRoad(r) || list < 0 || list > ALL_NUMBERS) {
            return REFUSED;
        }
        int had = net.allowed[r];
        net.allowed[r] = list;
        return had;
    }

    public int choose() {
        if (net.roadCount > MOST_LISTED) {
            return REFUSED;
        }
        Picker picker = pickerHere();
        picker.allowListed();
        return asBit(picker.pickFirst());
    }

    public int square(int s) {
        if (s < LEAST_SIDE || s > MOST_SIDE) {
            return REFUSED;
        }
        return held.begin(s);
    }

    public int hold(int row) {
        if (!held.hasRoom() || !held.canStandNext(row)) {
            return REFUSED;
        }
        held.append(row);
        return held.height;
    }

    public int on() {
        if (!held.hasRoom()) {
            return REFUSED;
        }
        int row = held.leastNext();
        held.append(row);
        return row;
    }

    public int rows() {
        if (!held.hasRoom()) {
            return REFUSED;
        }
        return held.waysNext();
    }

    public int at(int r, int c) {
        if (r < 0 || r >= held.height || c < 0 || c >= held.side) {
            return NONE;
        }
        return held.cell[r * MOST_SIDE + c];
    }

    public int meets(int m, int w, int i) {
        if (m % 2 != 0 || m < LEAST_MEETERS || m > MOST_MEETERS || w < 0 || w > m - 2 || i < 0 || i >= m) {
            return REFUSED;
        }
        if (i == m - 1) {
            return w;
        }
        if (i == w) {
            return m - 1;
        }
        return Math.floorMod(2 * w - i, m - 1);
    }

    public int many(int what) {
        switch (what) {
            case 0:
                return net.postCount;
            case 1:
                return net.roadCount;
            case 2:
                return held.height;
            default:
                return REFUSED;
        }
    }

    private boolean hasChain(int r, int x, int y) {
        if (!net.hasRoad(r) || x < 0 || x >= NUMBERS || y < 0 || y >= NUMBERS || x == y) {
            return false;
        }
        return net.number[r] == x || net.number[r] == y;
    }

    private Heaps heapsHere() {
        if (heapsOfNet == null) {
            heapsOfNet = new Heaps(net);
        }
        return heapsOfNet;
    }

    private Picker pickerHere() {
        if (pickerOfNet == null) {
            pickerOfNet = new Picker(net);
        }
        return pickerOfNet;
    }

    private static int asBit(boolean yes) {
        return yes ? 1 : 0;
    }

    private static boolean isIn(int set, int member) {
        return (set >> member & 1) != 0;
    }

    /** The place of the only bit of a set. */
    private static int placeOf(int single) {
        return Integer.bitCount(single - 1);
    }

    private static int leastOutside(int set) {
        for (int n = 0; n < NUMBERS; n++) {
            if (!isIn(set, n)) {
                return n;
            }
        }
        return NUMBERS;
    }

    private static int needFor(int inside, int size) {
        int pairs = size / 2;
        if (pairs == 0) {
            return 0;
        }
        return (inside + pairs - 1) / pairs;
    }

    /** The posts and roads, with the numbers that the roads have. */
    private static final class Net {
        int postCount;
        int roadCount;
        final int[] first = new int[MOST_ROADS];
        final int[] second = new int[MOST_ROADS];
        final int[] number = new int[MOST_ROADS];
        final int[] allowed = new int[MOST_ROADS];
        /** For each post its roads. */
        final int[] at = new int[MOST_POSTS];
        /** For each road the others that have a post in common with it. */
        final int[] beside = new int[MOST_ROADS];

        Net() {
            postCount = 0;
            roadCount = 0;
        }

        boolean hasPost(int p) {
            return p >= 0 && p < postCount;
        }

        boolean hasRoad(int r) {
            return r >= 0 && r < roadCount;
        }

        int allPosts() {
            return (1 << postCount) - 1;
        }

        int allRoads() {
            return (1 << roadCount) - 1;
        }

        int addPost() {
            at[postCount] = 0;
            postCount++;
            return postCount - 1;
        }

        int addRoad(int a, int b) {
            int r = roadCount;
            first[r] = a;
            second[r] = b;
            number[r] = NONE;
            allowed[r] = ALL_NUMBERS;
            beside[r] = at[a] | at[b];
            for (int s = 0; s < r; s++) {
                if (isIn(beside[r], s)) {
                    beside[s] |= 1 << r;
                }
            }
            at[a] |= 1 << r;
            at[b] |= 1 << r;
            roadCount++;
            return r;
        }

        int removeLatest() {
            roadCount--;
            int kept = allRoads();
            at[first[roadCount]] &= kept;
            at[second[roadCount]] &= kept;
            for (int s = 0; s < roadCount; s++) {
                beside[s] &= kept;
            }
            return roadCount;
        }

        int numberedRoads() {
            int numbered = 0;
            for (int r = 0; r < roadCount; r++) {
                if (number[r] != NONE) {
                    numbered++;
                }
            }
            return numbered;
        }

        int greatestNumber() {
            int greatest = NONE;
            for (int r = 0; r < roadCount; r++) {
                greatest = Math.max(greatest, number[r]);
            }
            return greatest;
        }

        void forgetNumbers() {
            for (int r = 0; r < roadCount; r++) {
                number[r] = NONE;
            }
        }

        int fullest() {
            int most = 0;
            for (int p = 0; p < postCount; p++) {
                most = Math.max(most, Integer.bitCount(at[p]));
            }
            return most;
        }

        boolean isPlain() {
            for (int r = 0; r < roadCount; r++) {
                if (Integer.bitCount(at[first[r]] & at[second[r]]) > 1) {
                    return false;
                }
            }
            return true;
        }

        int numbersAt(int p) {
            int taken = 0;
            for (int r = 0; r < roadCount; r++) {
                if (isIn(at[p], r) && number[r] != NONE) {
                    taken |= 1 << number[r];
                }
            }
            return taken;
        }

        int leastFree(int p) {
            return leastOutside(numbersAt(p));
        }

        int roadWith(int p, int n) {
            for (int r = 0; r < roadCount; r++) {
                if (isIn(at[p], r) && number[r] == n) {
                    return r;
                }
            }
            return NONE;
        }

        int leastClashing() {
            for (int r = 0; r < roadCount; r++) {
                if (number[r] != NONE && (beside[r] & roadsNumbered(number[r])) != 0) {
                    return r;
                }
            }
            return NONE;
        }

        int roadsNumbered(int n) {
            int set = 0;
            for (int r = 0; r < roadCount; r++) {
                if (number[r] == n) {
                    set |= 1 << r;
                }
            }
            return set;
        }

        int roadsInside(int posts) {
            int inside = 0;
            for (int r = 0; r < roadCount; r++) {
                if (isIn(posts, first[r]) && isIn(posts, second[r])) {
                    inside++;
                }
            }
            return inside;
        }

        int endsOf(int set) {
            int ends = 0;
            for (int r = 0; r < roadCount; r++) {
                if (isIn(set, r)) {
                    ends |= 1 << first[r] | 1 << second[r];
                }
            }
            return ends;
        }

        int chainOf(int r, int x, int y) {
            int either = roadsNumbered(x) | roadsNumbered(y);
            int chain = 1 << r;
            for (int round = 0; round < MOST_ROADS; round++) {
                int grown = chain | (besideAny(chain) & either);
                if (grown == chain) {
                    break;
                }
                chain = grown;
            }
            return chain;
        }

        int besideAny(int set) {
            int found = 0;
            for (int r = 0; r < roadCount; r++) {
                if (isIn(set, r)) {
                    found |= beside[r];
                }
            }
            return found;
        }

        void exchange(int chain, int x, int y) {
            for (int r = 0; r < roadCount; r++) {
                if (isIn(chain, r)) {
                    number[r] = number[r] == x ? y : x;
                }
            }
        }

        boolean isInTwoHeaps() {
            int one = 0;
            int other = 0;
            for (int p = 0; p < postCount; p++) {
                if (!isIn(one | other, p)) {
                    one |= 1 << p;
                }
                // Each round goes one road further on both sides, so a way through all posts is gone through.
                for (int round = 0; round < MOST_POSTS; round++) {
                    int before = one | other;
                    other |= acrossFrom(one);
                    one |= acrossFrom(other);
                    if ((one | other) == before) {
                        break;
                    }
                }
            }
            return (one & other) == 0;
        }

        int acrossFrom(int posts) {
            int across = 0;
            for (int r = 0; r < roadCount; r++) {
                if (isIn(posts, first[r])) {
                    across |= 1 << second[r];
                }
                if (isIn(posts, second[r])) {
                    across |= 1 << first[r];
                }
            }
            return across;
        }

        void colourTwoHeaps(int full) {
            forgetNumbers();
            for (int r = 0; r < roadCount; r++) {
                number[r] = numberInTwoHeaps(r, full);
            }
        }

        int numberInTwoHeaps(int r, int full) {
            int takenFirst = numbersAt(first[r]);
            int takenSecond = numbersAt(second[r]);
            int both = leastOutside(takenFirst | takenSecond);
            if (both < full) {
                return both;
            }
            int a = leastOutside(takenFirst);
            int b = leastOutside(takenSecond);
            int start = roadWith(second[r], a);
            if (start != NONE) {
                exchange(chainOf(start, a, b), a, b);
            }
            return a;
        }
    }

    /** The fan by which one road is mended, held as the roads from the hub to its posts: the net is plain. */
    private static final class Fan {
        final Net net;
        final int hub;
        final int[] road = new int[MOST_ROADS];
        int size;

        Fan(Net net, int r) {
            this.net = net;
            hub = net.first[r];
            road[0] = r;
            size = 1;
        }

        int mendRoad() {
            int d = net.leastFree(hub);
            for (int step = 0; step < MOST_ROADS; step++) {
                int c = net.leastFree(postAt(size - 1));
                int next = net.roadWith(hub, c);
                if (next == NONE) {
                    turn(c);
                    break;
                }
                int place = placeInFan(next);
                if (place > 0) {
                    swapAndTurn(place, c, d);
                    break;
                }
                append(next);
            }
            return net.number[road[0]];
        }

        int postAt(int place) {
            int r = road[place];
            return net.first[r] == hub ? net.second[r] : net.first[r];
        }

        int placeInFan(int r) {
            for (int place = 0; place < size; place++) {
                if (road[place] == r) {
                    return place;
                }
            }
            return NONE;
        }

        void append(int r) {
            if (size < MOST_ROADS) {
                road[size] = r;
                size++;
            }
        }

        void swapAndTurn(int place, int c, int d) {
            int chain = net.chainOf(road[place], c, d);
            boolean reachesAhead = (chain & net.at[postAt(place - 1)]) != 0;
            net.exchange(chain, c, d);
            if (!reachesAhead) {
                size = place;
            }
            turn(c);
        }

        void turn(int c) {
            for (int place = 0; place < size - 1; place++) {
                net.number[road[place]] = net.number[road[place + 1]];
            }
            net.number[road[size - 1]] = c;
        }
    }

    /** Makes a colouring in the numbers below a limit even. */
    private static final class Evener {
        // Each swap takes two at least from the sum of the squares of the counts, at most 24 * 24 at first.
        private static final int MOST_SWAPS = 300;

        final Net net;
        final int limit;
        final int[] counts = new int[NUMBERS];

        Evener(Net net, int limit) {
            this.net = net;
            this.limit = limit;
        }

        int makeEven() {
            int swaps = 0;
            for (int step = 0; step < MOST_SWAPS; step++) {
                countNumbers();
                int x = leastOfMost();
                int y = leastOfFewest();
                if (counts[x] - counts[y] < 2) {
                    break;
                }
                net.exchange(firstHeavyChain(x, y), x, y);
                swaps++;
            }
            return swaps;
        }

        void countNumbers() {
            for (int n = 0; n < limit; n++) {
                counts[n] = Integer.bitCount(net.roadsNumbered(n));
            }
        }

        int leastOfMost() {
            int most = 0;
            for (int n = 1; n < limit; n++) {
                if (counts[n] > counts[most]) {
                    most = n;
                }
            }
            return most;
        }

        int leastOfFewest() {
            int fewest = 0;
            for (int n = 1; n < limit; n++) {
                if (counts[n] < counts[fewest]) {
                    fewest = n;
                }
            }
            return fewest;
        }

        /** There is one, as more roads have x than y. */
        int firstHeavyChain(int x, int y) {
            int withX = net.roadsNumbered(x);
            int either = withX | net.roadsNumbered(y);
            for (int r = 0; r < net.roadCount; r++) {
                if (isIn(either, r)) {
                    int chain = net.chainOf(r, x, y);
                    if (Integer.bitCount(chain & withX) > Integer.bitCount(chain & ~withX)) {
                        return chain;
                    }
                    either &= ~chain;
                }
            }
            return 0;
        }
    }

    /** Looks at all heaps of posts at once. */
    private static final class Heaps {
        final Net net;
        /** For each set of posts how many roads are between them. */
        final int[] inside = new int[1 << MOST_POSTS];

        Heaps(Net net) {
            this.net = net;
        }

        int greatestNeed() {
            int heap = neediest();
            if (heap == NONE) {
                return 0;
            }
            return needFor(inside[heap], Integer.bitCount(heap));
        }

        int neediest() {
            if (net.postCount < LEAST_HEAP) {
                return NONE;
            }
            countInside();
            int best = NONE;
            int bestNeed = NONE;
            for (int heap = 0; heap <= net.allPosts(); heap++) {
                int size = Integer.bitCount(heap);
                if (size >= LEAST_HEAP && needFor(inside[heap], size) > bestNeed) {
                    best = heap;
                    bestNeed = needFor(inside[heap], size);
                }
            }
            return best;
        }

        void countInside() {
            int all = net.allPosts();
            inside[0] = 0;
            for (int set = 1; set <= all; set++) {
                int a = set & -set;
                int withoutA = set ^ a;
                int b = withoutA & -withoutA;
                if (b == 0) {
                    inside[set] = 0;
                } else {
                    // The roads that miss a or b, and those between the two: a few sums instead of all roads.
                    inside[set] = inside[withoutA] + inside[set ^ b] - inside[withoutA ^ b] + between(a, b);
                }
            }
        }

        int between(int a, int b) {
            return Integer.bitCount(net.at[placeOf(a)] & net.at[placeOf(b)]);
        }
    }

    /** Finds first colourings in which each road has one of the numbers that it can have. */
    private static final class Picker {
        final Net net;
        /** For each road the numbers that it can have. */
        final int[] can = new int[MOST_SEARCHED];
        final int[] picked = new int[MOST_SEARCHED];
        /** For each set of roads: can the lower numbers be given so that just these are left? */
        final boolean[] left = new boolean[1 << MOST_SEARCHED];

        Picker(Net net) {
            this.net = net;
        }

        void allowBelow(int n) {
            for (int r = 0; r < net.roadCount; r++) {
                can[r] = (1 << n) - 1;
            }
        }

        void allowListed() {
            for (int r = 0; r < net.roadCount; r++) {
                can[r] = net.allowed[r];
            }
        }

        int fewestNumbers() {
            for (int n = net.fullest(); n < net.roadCount; n++) {
                allowBelow(n);
                if (isPossible(net.allRoads())) {
                    return n;
                }
            }
            return net.roadCount;
        }

        boolean isCritical() {
            allowBelow(net.fullest());
            if (isPossible(net.allRoads())) {
                return false;
            }
            for (int r = 0; r < net.roadCount; r++) {
                if (!isPossible(net.allRoads() ^ 1 << r)) {
                    return false;
                }
            }
            return true;
        }

        /** The roads get the first colouring, if there is one. */
        boolean pickFirst() {
            if (!isPossible(net.allRoads())) {
                return false;
            }
            for (int r = 0; r < net.roadCount; r++) {
                picked[r] = pickLeast(r);
            }
            for (int r = 0; r < net.roadCount; r++) {
                net.number[r] = picked[r];
            }
            return true;
        }

        /** The least number for a road with which the roads behind it still can be coloured: there is one. */
        int pickLeast(int r) {
            int behind = net.allRoads() & -(2 << r);
            for (int n = 0; n < NUMBERS; n++) {
                if (isIn(can[r], n)) {
                    int struck = roadsThatCan(net.beside[r] & behind, n);
                    strike(struck, n);
                    if (isPossible(behind)) {
                        return n;
                    }
                    strike(struck, n);
                }
            }
            return NONE;
        }

        int roadsThatCan(int set, int n) {
            int found = 0;
            for (int r = 0; r < net.roadCount; r++) {
                if (isIn(set, r) && isIn(can[r], n)) {
                    found |= 1 << r;
                }
            }
            return found;
        }

        /** Takes a number from these roads or, the second time, gives it back. */
        void strike(int set, int n) {
            for (int r = 0; r < net.roadCount; r++) {
                if (isIn(set, r)) {
                    can[r] ^= 1 << n;
                }
            }
        }

        /** Whether these roads can be coloured, by carrying on number by number all sets that can be left. */
        boolean isPossible(int set) {
            if (hasEmptyHanded(set)) {
                return false;
            }
            int hard = hardOnes(set);
            if (hard == 0) {
                return true;
            }
            if (mostGiven(hard) < Integer.bitCount(hard)) {
                return false;
            }
            clearLeft(hard);
            left[hard] = true;
            for (int n = 0; n < NUMBERS && !left[0]; n++) {
                giveNumber(hard, roadsThatCan(hard, n));
            }
            return left[0];
        }

        boolean hasEmptyHanded(int set) {
            for (int r = 0; r < net.roadCount; r++) {
                if (isIn(set, r) && can[r] == 0) {
                    return true;
                }
            }
            return false;
        }

        /** Without the roads that can have more numbers than they have roads beside them: they come last with ease. */
        int hardOnes(int set) {
            int hard = set;
            for (int round = 0; round < MOST_SEARCHED; round++) {
                int before = hard;
                for (int r = 0; r < net.roadCount; r++) {
                    if (isIn(hard, r) && Integer.bitCount(can[r]) > Integer.bitCount(net.beside[r] & hard)) {
                        hard ^= 1 << r;
                    }
                }
                if (hard == before) {
                    break;
                }
            }
            return hard;
        }

        /** How many roads could get numbers if each went to half of the posts: a quick no for crowded nets. */
        int mostGiven(int hard) {
            int pairs = Integer.bitCount(net.endsOf(hard)) / 2;
            int given = 0;
            for (int n = 0; n < NUMBERS; n++) {
                given += Math.min(pairs, Integer.bitCount(roadsThatCan(hard, n)));
            }
            return given;
        }

        void clearLeft(int hard) {
            int sets = 1 << Integer.bitCount(hard);
            int set = 0;
            for (int i = 0; i < sets; i++) {
                left[set] = false;
                set = (set - hard) & hard;
            }
        }

        void giveNumber(int hard, int takers) {
            int sets = 1 << Integer.bitCount(hard);
            int set = 0;
            // What a set leaves is less than it: going upwards, no set gets the same number twice.
            for (int i = 0; i < sets; i++) {
                if (left[set] && (set & takers) != 0) {
                    left[set] = false;
                    takeOut(set, set & takers, 0);
                }
                set = (set - hard) & hard;
            }
        }

        /** Marks what is left of a set when as many takers get the number as can: fewer would never be better. */
        private void takeOut(int set, int takers, int depth) {
            if (takers == 0) {
                left[set] = true;
            }
            if (takers == 0 || depth >= MOST_SEARCHED) {
                return;
            }
            int choices = 0;
            for (int r = 0; r < net.roadCount; r++) {
                if (choices == 0 && isIn(takers, r)) {
                    // Either the least taker gets the number, or one beside it that keeps it from getting it.
                    choices = (1 << r | net.beside[r]) & takers;
                }
                if (isIn(choices, r)) {
                    takeOut(set ^ 1 << r, takers & ~(1 << r | net.beside[r]), depth + 1);
                }
            }
        }
    }

    /** Counts colourings. */
    private static final class Tally {
        final Net net;
        /** For each set of roads: in how many ways can the others have got numbers so far? */
        final long[] ways = new long[1 << MOST_SEARCHED];

        Tally(Net net) {
            this.net = net;
        }

        long colourings(int n) {
            int all = net.allRoads();
            for (int set = 0; set <= all; set++) {
                ways[set] = 0;
            }
            ways[all] = 1;
            for (int given = 0; given < n; given++) {
                giveNumber(all, n - given);
            }
            return ways[0];
        }

        /** The least road left, and any that can go with it, gets one of the numbers that no road has yet. */
        void giveNumber(int all, int numbers) {
            for (int set = 1; set <= all; set++) {
                if (ways[set] != 0) {
                    long now = ways[set] * numbers;
                    ways[set] = 0;
                    int least = placeOf(set & -set);
                    takeOut(set ^ 1 << least, set & ~net.beside[least], least, now);
                }
            }
        }

        /** Adds what is left when these roads, and any of the others behind the last one taken, have the number. */
        private void takeOut(int set, int others, int last, long now) {
            ways[set] += now;
            for (int r = last + 1; r < net.roadCount; r++) {
                if (isIn(others, r)) {
                    takeOut(set ^ 1 << r, others & ~net.beside[r], r, now);
                }
            }
        }
    }

    /** The square, its rows one behind the other in cells. */
    private static final class Square {
        int side;
        int height;
        final int[] cell = new int[MOST_SIDE * MOST_SIDE];
        /** For each column the numbers that it has. */
        final int[] taken = new int[MOST_SIDE];
        /** For each set of numbers: in how many ways can they fill the last columns of the next row? */
        final int[] ways = new int[1 << MOST_SIDE];

        Square() {
            side = NONE;
            height = 0;
        }

        int begin(int s) {
            int had = side;
            side = s;
            height = 0;
            for (int c = 0; c < side; c++) {
                taken[c] = 0;
            }
            return had;
        }

        boolean hasRoom() {
            return height < side;
        }

        int allNumbers() {
            return (1 << side) - 1;
        }

        boolean canStandNext(int row) {
            if (row < 0) {
                return false;
            }
            int unseen = allNumbers();
            int rest = row;
            for (int c = side - 1; c >= 0; c--) {
                int digit = rest % 10;
                if (!isIn(unseen & ~taken[c], digit)) {
                    return false;
                }
                unseen ^= 1 << digit;
                rest /= 10;
            }
            return rest == 0;
        }

        void append(int row) {
            int rest = row;
            for (int c = side - 1; c >= 0; c--) {
                int digit = rest % 10;
                cell[height * MOST_SIDE + c] = digit;
                taken[c] |= 1 << digit;
                rest /= 10;
            }
            height++;
        }

        int waysNext() {
            fillWays();
            return ways[allNumbers()];
        }

        int leastNext() {
            fillWays();
            int unused = allNumbers();
            int row = 0;
            for (int c = 0; c < side; c++) {
                int digit = leastDigit(c, unused);
                unused ^= 1 << digit;
                row = row * 10 + digit;
            }
            return row;
        }

        /** There is one: a square's rows can always be carried on. */
        int leastDigit(int c, int unused) {
            int digit = 0;
            for (int n = side - 1; n >= 0; n--) {
                if (isIn(unused & ~taken[c], n) && ways[unused ^ 1 << n] > 0) {
                    digit = n;
                }
            }
            return digit;
        }

        void fillWays() {
            ways[0] = 1;
            for (int set = 1; set <= allNumbers(); set++) {
                ways[set] = waysFor(set, side - Integer.bitCount(set));
            }
        }

        int waysFor(int set, int c) {
            int sum = 0;
            for (int n = 0; n < side; n++) {
                if (isIn(set & ~taken[c], n)) {
                    sum += ways[set ^ 1 << n];
                }
            }
            return sum;
        }
    }
}
