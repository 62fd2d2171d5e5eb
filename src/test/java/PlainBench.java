import java.util.ArrayList;
import java.util.Arrays;
import java.util.Collections;
import java.util.HashSet;
import java.util.LinkedHashSet;
import java.util.List;
import java.util.Set;
import java.util.TreeSet;

/**
 * The document's words followed as plainly as they stand, slow and with the whole Java library: what the
 * class under test is held against. A search that takes too long answers UNKNOWN.
 */
final class PlainBench {
    static final int UNKNOWN = Integer.MIN_VALUE + 77;
    private static final int PATIENCE = 3_000_000;

    static final class Road {
        final int first;
        final int second;
        int number = -1;
        int list = 65535;

        Road(int first, int second) {
            this.first = first;
            this.second = second;
        }

        boolean isAt(int post) {
            return first == post || second == post;
        }

        boolean meets(Road other) {
            return other.isAt(first) || other.isAt(second);
        }

        int otherEnd(int post) {
            return first == post ? second : first;
        }
    }

    int posts = 0;
    final List<Road> roads = new ArrayList<>();
    int side = -1;
    final List<int[]> square = new ArrayList<>();
    private int patience;

    int post() {
        return posts == 12 ? -2 : posts++;
    }

    int road(int a, int b) {
        if (!isPost(a) || !isPost(b) || a == b || roads.size() == 24) {
            return -2;
        }
        roads.add(new Road(a, b));
        return roads.size() - 1;
    }

    int drop() {
        if (roads.isEmpty()) {
            return -2;
        }
        roads.remove(roads.size() - 1);
        return roads.size();
    }

    int paint(int r, int n) {
        if (!isRoad(r) || n < -1 || n > 15) {
            return -2;
        }
        int had = roads.get(r).number;
        roads.get(r).number = n;
        return had;
    }

    int wash() {
        int had = 0;
        for (Road road : roads) {
            had += road.number >= 0 ? 1 : 0;
            road.number = -1;
        }
        return had;
    }

    int of(int r, int what) {
        if (!isRoad(r) || what < 0 || what > 3) {
            return -2;
        }
        Road road = roads.get(r);
        return new int[] {road.first, road.second, road.number, road.list}[what];
    }

    int roads(int p) {
        if (!isPost(p)) {
            return -2;
        }
        return (int) roads.stream().filter(road -> road.isAt(p)).count();
    }

    int free(int p) {
        return isPost(p) ? leastFree(p) : -2;
    }

    int clash() {
        for (int r = 0; r < roads.size(); r++) {
            for (int s = 0; s < roads.size(); s++) {
                Road one = roads.get(r);
                Road other = roads.get(s);
                if (r != s && one.number >= 0 && one.number == other.number && one.meets(other)) {
                    return r;
                }
            }
        }
        return -1;
    }

    int chain(int r, int x, int y) {
        return hasChain(r, x, y) ? chainAt(roads.get(r), x, y).size() : -2;
    }

    int swap(int r, int x, int y) {
        if (!hasChain(r, x, y)) {
            return -2;
        }
        Set<Road> chain = chainAt(roads.get(r), x, y);
        exchange(chain, x, y);
        return chain.size();
    }

    int mend(int r) {
        if (!isRoad(r) || roads.get(r).number >= 0 || clash() >= 0 || full(2) == 0) {
            return -2;
        }
        for (Road road : roads) {
            if (road.number > fullest(roads)) {
                return -2;
            }
        }
        int u = roads.get(r).first;
        List<Integer> fan = new ArrayList<>();
        fan.add(roads.get(r).second);
        int d = leastFree(u);
        while (true) {
            int c = leastFree(fan.get(fan.size() - 1));
            if (isFree(u, c)) {
                turn(u, fan, c);
                return roads.get(r).number;
            }
            Road away = roadAt(u, c);
            int w = away.otherEnd(u);
            if (!fan.contains(w)) {
                fan.add(w);
                continue;
            }
            int v = fan.get(fan.indexOf(w) - 1);
            Set<Road> chain = chainAt(away, c, d);
            boolean atV = chain.stream().anyMatch(road -> road.isAt(v));
            exchange(chain, c, d);
            if (!atV) {
                fan = new ArrayList<>(fan.subList(0, fan.indexOf(v) + 1));
            }
            turn(u, fan, c);
            return roads.get(r).number;
        }
    }

    int heaps() {
        for (int heap = 0; heap < 1 << posts; heap++) {
            boolean parted = true;
            for (Road road : roads) {
                parted &= (heap >> road.first & 1) != (heap >> road.second & 1);
            }
            if (parted) {
                return 1;
            }
        }
        return 0;
    }

    int two() {
        int full = fullest(roads);
        if (heaps() == 0 || full > 16) {
            return -2;
        }
        wash();
        for (Road road : roads) {
            int a = leastFree(road.first);
            int b = leastFree(road.second);
            int given = -1;
            for (int n = full - 1; n >= 0; n--) {
                if (isFree(road.first, n) && isFree(road.second, n)) {
                    given = n;
                }
            }
            if (given < 0) {
                exchange(chainAt(roadAt(road.second, a), a, b), a, b);
                given = a;
            }
            road.number = given;
        }
        return full;
    }

    int even(int n) {
        if (n < 1 || n > 16 || clash() >= 0) {
            return -2;
        }
        for (Road road : roads) {
            if (road.number < 0 || road.number >= n) {
                return -2;
            }
        }
        for (int swaps = 0; ; swaps++) {
            int[] have = new int[n];
            for (Road road : roads) {
                have[road.number]++;
            }
            int most = Arrays.stream(have).max().getAsInt();
            int fewest = Arrays.stream(have).min().getAsInt();
            if (most < fewest + 2) {
                return swaps;
            }
            int x = indexOf(have, most);
            int y = indexOf(have, fewest);
            for (Road road : roads) {
                if (road.number == x || road.number == y) {
                    Set<Road> chain = chainAt(road, x, y);
                    long withX = chain.stream().filter(s -> s.number == x).count();
                    if (withX > chain.size() - withX) {
                        exchange(chain, x, y);
                        break;
                    }
                }
            }
        }
    }

    int full(int what) {
        switch (what) {
            case 0:
                return fullest(roads);
            case 1:
                int bound = fullest(roads);
                for (int heap = 0; heap < 1 << posts; heap++) {
                    bound = Math.max(bound, need(heap));
                }
                return bound;
            case 2:
                Set<String> ends = new HashSet<>();
                for (Road road : roads) {
                    ends.add(Math.min(road.first, road.second) + "-" + Math.max(road.first, road.second));
                }
                return ends.size() == roads.size() ? 1 : 0;
            case 3:
                return (int) roads.stream().filter(road -> road.number >= 0).count();
            default:
                return -2;
        }
    }

    int least() {
        return roads.size() > 12 ? -2 : leastOf(roads);
    }

    int first(int n) {
        if (n < 0 || n > 16 || roads.size() > 12) {
            return -2;
        }
        if (n < leastOf(roads)) {
            return 0;
        }
        int[] lists = new int[roads.size()];
        Arrays.fill(lists, (1 << n) - 1);
        return giveFirst(lists);
    }

    long count(int n) {
        if (n < 0 || n > 9 || roads.size() > 12) {
            return -2;
        }
        int[] given = new int[roads.size()];
        if (Math.pow(n, roads.size()) < 100_000) {
            return countAll(given, 0, n);
        }
        return countParted(given, 0, 0, n);
    }

    int critical() {
        if (roads.size() > 12) {
            return -2;
        }
        int full = fullest(roads);
        if (leastOf(roads) <= full) {
            return 0;
        }
        for (Road road : roads) {
            List<Road> fewer = new ArrayList<>(roads);
            fewer.remove(road);
            if (leastOf(fewer) > full) {
                return 0;
            }
        }
        return 1;
    }

    int need(int heap) {
        if (heap < 0 || heap >= 1 << posts || Integer.bitCount(heap) < 3) {
            return -2;
        }
        int inside = 0;
        for (Road road : roads) {
            inside += (heap >> road.first & 1) & (heap >> road.second & 1);
        }
        return (int) Math.ceil((double) inside / (Integer.bitCount(heap) / 2));
    }

    int heap() {
        int best = -1;
        for (int heap = 0; heap < 1 << posts; heap++) {
            if (Integer.bitCount(heap) >= 3 && (best < 0 || need(heap) > need(best))) {
                best = heap;
            }
        }
        return best;
    }

    int list(int r, int list) {
        if (!isRoad(r) || list < 0 || list > 65535) {
            return -2;
        }
        int had = roads.get(r).list;
        roads.get(r).list = list;
        return had;
    }

    int choose() {
        if (roads.size() > 8) {
            return -2;
        }
        return giveFirst(roads.stream().mapToInt(road -> road.list).toArray());
    }

    int square(int s) {
        if (s < 2 || s > 9) {
            return -2;
        }
        int had = side;
        side = s;
        square.clear();
        return had;
    }

    int hold(int row) {
        if (side < 0 || square.size() == side || !nextRows().contains(row)) {
            return -2;
        }
        square.add(digits(row));
        return square.size();
    }

    int on() {
        if (side < 0 || square.size() == side) {
            return -2;
        }
        int row = nextRows().first();
        square.add(digits(row));
        return row;
    }

    int rows() {
        return side < 0 || square.size() == side ? -2 : nextRows().size();
    }

    int at(int r, int c) {
        return r < 0 || r >= square.size() || c < 0 || c >= side ? -1 : square.get(r)[c];
    }

    static int meets(int m, int w, int i) {
        if (m < 2 || m > 20 || m % 2 == 1 || w < 0 || w > m - 2 || i < 0 || i > m - 1) {
            return -2;
        }
        for (int j = 0; j < m; j++) {
            boolean last = (i == m - 1 && j == w) || (j == m - 1 && i == w);
            boolean others = i < m - 1 && j < m - 1 && (i + j - 2 * w) % (m - 1) == 0;
            if (j != i && (last || others)) {
                return j;
            }
        }
        throw new IllegalStateException("nobody to meet");
    }

    int many(int what) {
        return what < 0 || what > 2 ? -2 : new int[] {posts, roads.size(), square.size()}[what];
    }

    private boolean isPost(int p) {
        return p >= 0 && p < posts;
    }

    private boolean isRoad(int r) {
        return r >= 0 && r < roads.size();
    }

    private boolean hasChain(int r, int x, int y) {
        return isRoad(r) && x >= 0 && x <= 15 && y >= 0 && y <= 15 && x != y
                && (roads.get(r).number == x || roads.get(r).number == y);
    }

    private boolean isFree(int p, int n) {
        return roadAt(p, n) == null;
    }

    private int leastFree(int p) {
        int n = 0;
        while (n < 16 && !isFree(p, n)) {
            n++;
        }
        return n;
    }

    private Road roadAt(int p, int n) {
        for (Road road : roads) {
            if (road.isAt(p) && road.number == n) {
                return road;
            }
        }
        return null;
    }

    private Set<Road> chainAt(Road start, int x, int y) {
        Set<Road> chain = new LinkedHashSet<>();
        List<Road> open = new ArrayList<>(List.of(start));
        while (!open.isEmpty()) {
            Road road = open.remove(open.size() - 1);
            if (chain.add(road)) {
                for (Road other : roads) {
                    if ((other.number == x || other.number == y) && other.meets(road)) {
                        open.add(other);
                    }
                }
            }
        }
        return chain;
    }

    private static void exchange(Set<Road> chain, int x, int y) {
        for (Road road : chain) {
            road.number = x + y - road.number;
        }
    }

    private void turn(int u, List<Integer> fan, int c) {
        for (int k = 0; k < fan.size(); k++) {
            roadBetween(u, fan.get(k)).number = k + 1 < fan.size() ? roadBetween(u, fan.get(k + 1)).number : c;
        }
    }

    private Road roadBetween(int a, int b) {
        for (Road road : roads) {
            if (road.isAt(a) && road.isAt(b)) {
                return road;
            }
        }
        throw new IllegalStateException("no such road");
    }

    private static int indexOf(int[] row, int value) {
        int i = 0;
        while (row[i] != value) {
            i++;
        }
        return i;
    }

    private static int fullest(List<Road> net) {
        int[] have = new int[12];
        for (Road road : net) {
            have[road.first]++;
            have[road.second]++;
        }
        return Arrays.stream(have).max().getAsInt();
    }

    private static int leastOf(List<Road> net) {
        for (int n = 0; ; n++) {
            if (canDo(net, new int[net.size()], 0, 0, n)) {
                return n;
            }
        }
    }

    private static boolean canDo(List<Road> net, int[] given, int r, int used, int n) {
        if (r == net.size()) {
            return true;
        }
        for (int number = 0; number < Math.min(used + 1, n); number++) {
            if (fits(net, given, r, number)) {
                given[r] = number;
                if (canDo(net, given, r + 1, Math.max(used, number + 1), n)) {
                    return true;
                }
            }
        }
        return false;
    }

    private static boolean fits(List<Road> net, int[] given, int r, int number) {
        for (int s = 0; s < r; s++) {
            if (given[s] == number && net.get(s).meets(net.get(r))) {
                return false;
            }
        }
        return true;
    }

    private int giveFirst(int[] lists) {
        int[] given = new int[lists.length];
        patience = PATIENCE;
        int found = listFirst(lists, given, 0);
        if (found == 1) {
            for (int r = 0; r < given.length; r++) {
                roads.get(r).number = given[r];
            }
        }
        return found;
    }

    private int listFirst(int[] lists, int[] given, int r) {
        if (r == lists.length) {
            return 1;
        }
        if (--patience < 0) {
            return UNKNOWN;
        }
        for (int number = 0; number < 16; number++) {
            if ((lists[r] >> number & 1) == 1 && fits(roads, given, r, number)) {
                given[r] = number;
                int found = listFirst(lists, given, r + 1);
                if (found != 0) {
                    return found;
                }
            }
        }
        return 0;
    }

    private long countAll(int[] given, int r, int n) {
        if (r == given.length) {
            return 1;
        }
        long sum = 0;
        for (int number = 0; number < n; number++) {
            if (fits(roads, given, r, number)) {
                given[r] = number;
                sum += countAll(given, r + 1, n);
            }
        }
        return sum;
    }

    private long countParted(int[] given, int r, int used, int n) {
        if (r == given.length) {
            return 1;
        }
        long sum = 0;
        for (int number = 0; number < Math.min(used + 1, n); number++) {
            if (fits(roads, given, r, number)) {
                given[r] = number;
                sum += number < used ? countParted(given, r + 1, used, n)
                        : (n - used) * countParted(given, r + 1, used + 1, n);
            }
        }
        return sum;
    }

    private TreeSet<Integer> nextRows() {
        TreeSet<Integer> found = new TreeSet<>();
        List<Integer> unused = new ArrayList<>();
        for (int n = 0; n < side; n++) {
            unused.add(n);
        }
        addRows(found, unused, 0, 0);
        return found;
    }

    private void addRows(Set<Integer> found, List<Integer> unused, int c, int row) {
        if (c == side) {
            found.add(row);
            return;
        }
        for (int n : List.copyOf(unused)) {
            if (square.stream().noneMatch(above -> above[c] == n)) {
                unused.remove((Integer) n);
                addRows(found, unused, c + 1, 10 * row + n);
                unused.add(n);
                Collections.sort(unused);
            }
        }
    }

    private int[] digits(int row) {
        int[] cells = new int[side];
        for (int c = side - 1; c >= 0; c--) {
            cells[c] = row % 10;
            row /= 10;
        }
        return cells;
    }
}
