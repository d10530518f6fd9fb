import java.util.ArrayList;
import java.util.List;

/** Answers as the document's words say, slowly: all ways, all choices, all sets are tried. */
final class Oracle {
    final World v;
    int n;
    int back;
    int[] asks;
    int[][] pains;
    int[][] hours;
    int hands = 255;
    int givers = 255;

    Oracle(World v) {
        this.v = v;
        n = v.n;
        back = v.back;
        asks = v.asks.clone();
        pains = new int[8][];
        hours = new int[8][];
        for (int p = 0; p < 8; p++) {
            pains[p] = v.pains[p].clone();
            hours[p] = v.hours[p].clone();
        }
    }

    boolean isFirst(int u, int who) {
        return v.units.get(u)[1] == who || v.units.get(u)[2] == who;
    }

    boolean lawful(int u, List<Integer> path) {
        for (int i = 0; i < path.size(); i++) {
            int p = path.get(i);
            if (back == 2 && i > 0 && isFirst(u, p)) {
                return false;
            }
            for (int j = 0; j < i; j++) {
                int q = path.get(j);
                if (back == 1 && p == q && !isFirst(u, p) || back == 2 && p == q
                        || back == 3 && v.town[p] == v.town[q]) {
                    return false;
                }
            }
        }
        return true;
    }

    int hoursOf(List<Integer> path) {
        int sum = 0;
        for (int i = 1; i < path.size(); i++) {
            sum += hours[path.get(i - 1)][path.get(i)];
        }
        return sum;
    }

    int painsOf(List<Integer> path) {
        int sum = 0;
        for (int i = 1; i < path.size(); i++) {
            sum += pains[path.get(i - 1)][path.get(i)];
        }
        return sum;
    }

    int costOf(List<Integer> path) {
        int sum = painsOf(path);
        for (int i = 1; i < path.size() - 1; i++) {
            sum += asks[path.get(i)];
        }
        return sum;
    }

    /** All WAYS to a WHO, the first ones first. */
    List<List<Integer>> allWays(int u, int who) {
        List<List<Integer>> found = new ArrayList<>();
        for (int p = 0; p < v.people; p++) {
            boolean ours = (v.units.get(u)[2] < 0 || (hands >> v.units.get(u)[2] & 1) == 1)
                && (hands >> v.units.get(u)[1] & 1) == 1;
            if (isFirst(u, p) && ours) {
                List<Integer> path = new ArrayList<>();
                path.add(p);
                extend(u, who, path, found);
            }
        }
        return found;
    }

    private void extend(int u, int who, List<Integer> path, List<List<Integer>> found) {
        int at = path.get(path.size() - 1);
        if (path.size() == n) {
            if (at == who && lawful(u, path)) {
                found.add(new ArrayList<>(path));
            }
            return;
        }
        for (int q = 0; q < v.people; q++) {
            if (pains[at][q] >= 0 && (hands >> q & 1) == 1 && (givers >> at & 1) == 1) {
                path.add(q);
                extend(u, who, path, found);
                path.remove(path.size() - 1);
            }
        }
    }

    List<List<Integer>> doing(int u, int w) {
        List<List<Integer>> found = new ArrayList<>();
        int[] want = v.wants.get(w);
        int[] unit = v.units.get(u);
        if (want[1] != unit[0]) {
            return found;
        }
        for (List<Integer> path : allWays(u, want[0])) {
            int end = unit[3] + hoursOf(path);
            if (end <= want[3] && end < unit[3] + v.life[unit[0]]) {
                found.add(path);
            }
        }
        return found;
    }

    List<Integer> taken(int u, int w) {
        List<Integer> best = null;
        for (List<Integer> path : doing(u, w)) {
            if (best == null || costOf(path) < costOf(best)
                    || costOf(path) == costOf(best) && hoursOf(path) < hoursOf(best)) {
                best = path;
            }
        }
        return best;
    }

    int latest(int u, int w) {
        int[] want = v.wants.get(w);
        int[] unit = v.units.get(u);
        if (doing(u, w).isEmpty()) {
            return -1;
        }
        int least = 1000;
        for (List<Integer> path : allWays(u, want[0])) {
            least = Math.min(least, hoursOf(path));
        }
        int begin = unit[3];
        while (begin + 1 + least <= want[3] && begin + 1 + least < unit[3] + v.life[unit[0]]) {
            begin++;
        }
        return begin;
    }

    List<Integer>[][] table;

    @SuppressWarnings({"unchecked", "rawtypes"})
    void fill() {
        table = new List[v.units.size()][v.wants.size()];
        for (int u = 0; u < v.units.size(); u++) {
            for (int w = 0; w < v.wants.size(); w++) {
                table[u][w] = taken(u, w);
            }
        }
    }

    int most() {
        fill();
        return most(0, 0);
    }

    private int most(int w, int used) {
        if (w == v.wants.size()) {
            return 0;
        }
        int best = most(w + 1, used);
        for (int u = 0; u < v.units.size(); u++) {
            if ((used >> u & 1) == 0 && table[u][w] != null) {
                best = Math.max(best, 1 + most(w + 1, used | 1 << u));
            }
        }
        return best;
    }

    int bars() {
        fill();
        for (int size = 1; size <= v.wants.size(); size++) {
            for (int set = 1; set < 1 << v.wants.size(); set++) {
                int with = 0;
                for (int u = 0; u < v.units.size(); u++) {
                    boolean does = false;
                    for (int w = 0; w < v.wants.size(); w++) {
                        does |= (set >> w & 1) == 1 && table[u][w] != null;
                    }
                    with += does ? 1 : 0;
                }
                if (Integer.bitCount(set) == size && size > with) {
                    return set;
                }
            }
        }
        return 0;
    }

    int bestSum;
    int bestCount;
    int[] bestUnits;
    private int[] choice;

    void best() {
        fill();
        bestSum = Integer.MIN_VALUE;
        choice = new int[v.wants.size()];
        best(0, 0, 0, 0);
    }

    private void best(int w, int used, int sum, int count) {
        if (w == v.wants.size()) {
            if (sum > bestSum || sum == bestSum && count > bestCount) {
                bestSum = sum;
                bestCount = count;
                bestUnits = choice.clone();
            }
            return;
        }
        for (int u = 0; u < v.units.size(); u++) {
            if ((used >> u & 1) == 0 && table[u][w] != null) {
                choice[w] = u;
                best(w + 1, used | 1 << u, sum + v.wants.get(w)[2] - costOf(table[u][w]), count + 1);
            }
        }
        choice[w] = -1;
        best(w + 1, used, sum, count);
    }

    int bestPains() {
        int sum = 0;
        for (int w = 0; w < v.wants.size(); w++) {
            sum += bestUnits[w] < 0 ? 0 : painsOf(table[bestUnits[w]][w]);
        }
        return sum;
    }

    int gets;

    int middle(int who) {
        int told = asks[who];
        int best = -1;
        gets = -1;
        for (int a = 0; a <= 20; a++) {
            asks[who] = a;
            best();
            int times = 0;
            for (int w = 0; w < v.wants.size(); w++) {
                if (bestUnits[w] >= 0) {
                    List<Integer> path = table[bestUnits[w]][w];
                    for (int i = 1; i + 1 < path.size(); i++) {
                        times += path.get(i) == who ? 1 : 0;
                    }
                }
            }
            if (times * a > gets) {
                gets = times * a;
                best = a;
            }
        }
        asks[who] = told;
        return best;
    }

    int rest() {
        for (int round = 1; round <= 6; round++) {
            boolean changed = false;
            for (int who = 0; who < v.people; who++) {
                if (v.asks[who] > 0) {
                    int a = middle(who);
                    changed |= a != asks[who];
                    asks[who] = a;
                }
            }
            if (!changed) {
                return round;
            }
        }
        return -1;
    }

    int quarrel(int a, int b) {
        pains[a][b] = -1;
        pains[b][a] = -1;
        best();
        return most();
    }

    int unmet() {
        int bits = 0;
        for (int w = 0; w < v.wants.size(); w++) {
            bits |= bestUnits[w] < 0 ? 1 << w : 0;
        }
        return bits;
    }

    int mend() {
        int best = most();
        int found = -1;
        for (int a = 0; a < v.people; a++) {
            for (int b = 0; b < v.people; b++) {
                if (a != b && pains[a][b] < 0) {
                    Oracle more = new Oracle(v);
                    more.pains[a][b] = 0;
                    more.hours[a][b] = 1;
                    int now = more.most();
                    if (now > best) {
                        best = now;
                        found = 10 * a + b;
                    }
                }
            }
        }
        return found;
    }

    int live() {
        for (int size = 1; size <= v.people; size++) {
            for (int set = 1; set < 1 << v.people; set++) {
                if (Integer.bitCount(set) == size) {
                    int wanted = 0;
                    for (int[] want : v.wants) {
                        wanted += set >> want[0] & 1;
                    }
                    hands = set;
                    if (wanted > 0 && most() == wanted) {
                        return set;
                    }
                }
            }
        }
        return 0;
    }

    int stop() {
        for (int size = 0; size <= v.people; size++) {
            for (int set = 0; set < 1 << v.people; set++) {
                if (Integer.bitCount(set) == size) {
                    givers = ~set;
                    if (most() == 0) {
                        return set;
                    }
                }
            }
        }
        return -5;
    }

    int[] gains;

    /** 0 or above: who loses, -1: one does not give to the next. */
    int ring(List<Integer> ring) {
        int size = ring.size();
        for (int i = 0; i < size; i++) {
            if (pains[ring.get(i)][ring.get((i + 1) % size)] < 0) {
                return -1;
            }
        }
        gains = new int[size];
        for (int i = 0; i < size; i++) {
            for (int[] make : v.makes) {
                if (make[0] == ring.get(i)) {
                    go(ring, i, make[1]);
                    break;
                }
            }
        }
        int bits = 0;
        for (int i = 0; i < size; i++) {
            bits |= gains[i] < 0 ? 1 << ring.get(i) : 0;
        }
        return bits;
    }

    private void go(List<Integer> ring, int from, int u) {
        List<Integer> path = new ArrayList<>();
        for (int k = 0; k < n; k++) {
            path.add(ring.get((from + k) % ring.size()));
        }
        if (!lawful(u, path)) {
            return;
        }
        for (int k = 0; k + 1 < n; k++) {
            gains[(from + k) % ring.size()] -= pains[path.get(k)][path.get(k + 1)];
        }
        for (int[] want : v.wants) {
            if (want[0] == path.get(n - 1) && want[1] == v.units.get(u)[0]) {
                gains[(from + n - 1) % ring.size()] += want[2];
                break;
            }
        }
    }

    int lasts(List<Integer> ring) {
        List<Integer> now = new ArrayList<>(ring);
        while (now.size() >= 2) {
            int losers = ring(now);
            if (losers < 0) {
                return -1;
            }
            List<Integer> left = new ArrayList<>();
            int bits = 0;
            for (int who : now) {
                if ((losers >> who & 1) == 0) {
                    left.add(who);
                    bits |= 1 << who;
                }
            }
            if (losers == 0) {
                return bits;
            }
            now = left;
        }
        return -1;
    }

    /** The notes are {from, to, hour}. */
    int found(int u, List<int[]> notes) {
        for (int size = 0; size <= notes.size(); size++) {
            for (int set = 0; set < 1 << notes.size(); set++) {
                if (Integer.bitCount(set) == size && truth(u, notes, set) != null) {
                    return set;
                }
            }
        }
        return -5;
    }

    /** The others by HOURS, if they are TRUE together, else null. */
    List<int[]> truth(int u, List<int[]> notes, int without) {
        List<int[]> left = new ArrayList<>();
        for (int hour = 0; hour < 48; hour++) {
            for (int i = 0; i < notes.size(); i++) {
                if ((without >> i & 1) == 0 && notes.get(i)[2] == hour) {
                    left.add(notes.get(i));
                }
            }
        }
        for (int i = 0; i < left.size(); i++) {
            int[] note = left.get(i);
            boolean follows = i == 0 ? isFirst(u, note[0]) : left.get(i - 1)[1] == note[0];
            if (!follows || note[2] < v.units.get(u)[3]) {
                return null;
            }
        }
        return left;
    }

    // a day, act by act: what, unit, whom
    int hour;
    int met;
    int painsDone;
    int why;
    List<List<Integer>> had;
    int[] due;
    boolean[] gone;

    int judge(List<int[]> acts) {
        hour = 0;
        met = 0;
        painsDone = 0;
        why = 0;
        had = new ArrayList<>();
        due = new int[v.units.size()];
        gone = new boolean[v.units.size()];
        for (int u = 0; u < v.units.size(); u++) {
            had.add(new ArrayList<>());
        }
        for (int i = 0; i < acts.size(); i++) {
            why = wrong(acts.get(i)[0], acts.get(i)[1], acts.get(i)[2]);
            if (why != 0) {
                return i;
            }
        }
        return -1;
    }

    private int wrong(int what, int u, int whom) {
        if (what == 2) {
            if (hour + u > 47) {
                return 8;
            }
            hour += u;
            return 0;
        }
        if (hour < v.units.get(u)[3]) {
            return 1;
        }
        if (gone[u] || spoilt(u)) {
            return 2;
        }
        if (hour < due[u]) {
            return 3;
        }
        if (what == 0) {
            return gives(u, whom);
        }
        if (nth(u) != n) {
            return 6;
        }
        int w = want(u);
        if (w < 0) {
            return 7;
        }
        met |= 1 << w;
        gone[u] = true;
        return 0;
    }

    private int gives(int u, int whom) {
        List<Integer> path = had.get(u);
        int giver = -1;
        for (int p = v.people - 1; p >= 0; p--) {
            boolean has = path.isEmpty() ? isFirst(u, p) : path.get(path.size() - 1) == p;
            giver = has && pains[p][whom] >= 0 ? p : giver;
        }
        if (giver < 0) {
            return 4;
        }
        List<Integer> more = new ArrayList<>(path);
        if (path.isEmpty()) {
            more.add(giver);
        }
        more.add(whom);
        if (!lawful(u, more)) {
            return 5;
        }
        had.set(u, more);
        due[u] = hour + hours[giver][whom];
        painsDone += pains[giver][whom];
        return 0;
    }

    boolean spoilt(int u) {
        return hour >= v.units.get(u)[3] + v.life[v.units.get(u)[0]];
    }

    int nth(int u) {
        return gone[u] ? 0 : Math.max(1, had.get(u).size());
    }

    int who(int u) {
        if (gone[u]) {
            return -1;
        }
        return had.get(u).isEmpty() ? v.units.get(u)[1] : had.get(u).get(had.get(u).size() - 1);
    }

    private int want(int u) {
        for (int w = 0; w < v.wants.size(); w++) {
            int[] want = v.wants.get(w);
            if (want[0] == who(u) && want[1] == v.units.get(u)[0] && (met >> w & 1) == 0 && hour <= want[3]) {
                return w;
            }
        }
        return -1;
    }

    int usable(int u) {
        return !gone[u] && hour >= due[u] && !spoilt(u) && nth(u) == n && want(u) >= 0 ? 1 : 0;
    }

    int spoiltUnused() {
        int bits = 0;
        for (int u = 0; u < v.units.size(); u++) {
            bits |= !gone[u] && spoilt(u) ? 1 << u : 0;
        }
        return bits;
    }
}
