import java.util.ArrayList;
import java.util.Collections;
import java.util.List;
import java.util.Random;

/** Random villages: every answer against the slow Oracle. */
public final class OracleTest {
    private static int round;

    private OracleTest() {
    }

    private static void same(String what, World v, long got, long due) {
        Check.same("village " + round + " " + what + (got == due ? "" : " of " + v.text), got, due);
    }

    public static void main(String[] args) {
        int rounds = args.length > 2 ? Integer.parseInt(args[2]) : 1500;
        for (round = 1; round <= rounds; round++) {
            Random r = new Random(round);
            boolean large = r.nextInt(20) == 0;
            World v = World.draw(r, large ? 10 : 6, large ? 8 : 4);
            ThirdHands x = new ThirdHands();
            same("village", v, Check.village(x, v.text), v.lines);
            told(v, x);
            ways(v, x);
            best(v, x);
            sets(v, x);
            others(v, x, r);
            if (!large) {
                asking(v, x, r);
                others(v, x, r);
            }
            for (int k = 0; k < 4; k++) {
                rings(v, x, r);
                days(v, x, r);
                books(v, r);
            }
        }
        Check.finish("random villages");
    }

    private static void told(World v, ThirdHands x) {
        int[] due = {v.people, v.sorts, v.units.size(), v.wants.size(), v.n, v.back, 0, 0, 0, -1};
        for (int k = 0; k < due.length; k++) {
            same("count " + k, v, x.count(k), due[k]);
        }
        for (int u = 0; u < v.units.size(); u++) {
            for (int k = 0; k < 4; k++) {
                same("unit", v, x.unit(u, k), v.units.get(u)[k]);
            }
            same("unit", v, x.unit(u, 4), v.units.get(u)[3] + v.life[v.units.get(u)[0]]);
        }
        for (int w = 0; w < v.wants.size(); w++) {
            for (int k = 0; k < 4; k++) {
                same("want", v, x.want(w, k), v.wants.get(w)[k]);
            }
        }
        for (int p = 0; p < v.people; p++) {
            for (int q = 0; q < v.people; q++) {
                same("giving", v, x.giving(p, q, 0), v.pains[p][q]);
                same("giving", v, x.giving(p, q, 1), v.pains[p][q] < 0 ? -1 : v.hours[p][q]);
            }
        }
    }

    private static void ways(World v, ThirdHands x) {
        Oracle o = new Oracle(v);
        for (int u = 0; u < v.units.size(); u++) {
            for (int w = 0; w < v.wants.size(); w++) {
                List<Integer> path = o.taken(u, w);
                same("way cost " + u + " " + w, v, x.way(u, w, 0), path == null ? -1 : o.costOf(path));
                same("way hours " + u + " " + w, v, x.way(u, w, 1), path == null ? -1 : o.hoursOf(path));
                same("way pains " + u + " " + w, v, x.way(u, w, 2), path == null ? -1 : o.painsOf(path));
                for (int k = 0; path != null && k <= path.size(); k++) {
                    same("hand " + u + " " + w + " " + k, v, x.hand(k), k < path.size() ? path.get(k) : -1);
                }
                same("latest " + u + " " + w, v, x.latest(u, w), o.latest(u, w));
                for (int h = 2; h <= (v.people <= 5 ? 6 : 4); h++) {
                    Oracle other = new Oracle(v);
                    other.n = h;
                    same("ways " + u + " " + w + " " + h, v, x.ways(u, w, h), other.doing(u, w).size());
                }
            }
        }
    }

    private static void best(World v, ThirdHands x) {
        Oracle o = new Oracle(v);
        same("most", v, x.most(), o.most());
        same("bars", v, x.bars(), o.bars());
        o.best();
        same("best 0", v, x.best(0), o.bestSum);
        same("best 1", v, x.best(1), o.bestCount);
        same("best 2", v, x.best(2), o.bestPains());
        for (int w = 0; w < v.wants.size(); w++) {
            same("bestOf " + w, v, x.bestOf(w), o.bestUnits[w]);
        }
    }

    private static void sets(World v, ThirdHands x) {
        same("live", v, x.live(), new Oracle(v).live());
        same("stop", v, x.stop(), new Oracle(v).stop());
        same("mend", v, x.mend(), new Oracle(v).mend());
    }

    private static void others(World v, ThirdHands x, Random r) {
        for (int k = 0; k < 4; k++) {
            Oracle o = new Oracle(v);
            o.n = 2 + r.nextInt(v.people <= 6 ? 5 : 4);
            o.back = r.nextInt(4);
            o.best();
            same("other 0", v, x.other(o.n, o.back, 0), o.most());
            same("other 1", v, x.other(o.n, o.back, 1), o.bestSum);
            same("other 2", v, x.other(o.n, o.back, 2), o.bestPains());
        }
        for (int k = 0; k < 4; k++) {
            int a = r.nextInt(v.people);
            int b = r.nextInt(v.people);
            Oracle o = new Oracle(v);
            same("quarrel", v, x.quarrel(a, b), a == b ? -1 : o.quarrel(a, b));
            if (a != b) {
                same("starves", v, x.starves(), o.unmet());
            }
        }
        best(v, x);
    }

    private static void asking(World v, ThirdHands x, Random r) {
        for (int k = 0; k < 2; k++) {
            int who = r.nextInt(v.people);
            Oracle o = new Oracle(v);
            same("middle " + who, v, x.middle(who), o.middle(who));
            same("middleBy " + who, v, x.middleBy(), o.gets);
        }
        Oracle o = new Oracle(v);
        same("rest", v, x.rest(), o.rest());
        for (int p = 0; p < v.people; p++) {
            same("restOf " + p, v, x.restOf(p), o.asks[p]);
        }
    }

    private static void rings(World v, ThirdHands x, Random r) {
        if (v.people < 2) {
            return;
        }
        List<Integer> all = new ArrayList<>();
        for (int p = 0; p < v.people; p++) {
            all.add(p);
        }
        Collections.shuffle(all, r);
        List<Integer> ring = all.subList(0, 2 + r.nextInt(v.people - 1));
        // a walk along the givings closes more often than a blind draw
        for (int i = 1; i < ring.size(); i++) {
            for (int j = i; j < ring.size() && v.pains[ring.get(i - 1)][ring.get(i)] < 0; j++) {
                Collections.swap(ring, i, j);
            }
        }
        int[] people = ring.stream().mapToInt(Integer::intValue).toArray();
        Oracle o = new Oracle(v);
        int due = o.ring(ring);
        same("ring " + ring, v, Check.ring(x, people), due);
        int[] gains = o.gains;
        same("lasts " + ring, v, Check.lasts(x, people), o.lasts(ring));
        for (int i = 0; due >= 0 && i < people.length; i++) {
            same("gain " + ring + " " + i, v, x.gain(i), gains[i]);
        }
    }

    private static void days(World v, ThirdHands x, Random r) {
        if (v.units.isEmpty()) {
            return;
        }
        List<int[]> acts = new ArrayList<>();
        if (r.nextInt(3) == 0) {
            int seed = r.nextInt();
            int m = 1 + r.nextInt(50);
            same("drawn", v, x.drawn(m, seed), m);
            long y = seed;
            for (int k = 0; k < m; k++) {
                int[] draws = new int[3];
                int[] of = {4, v.units.size(), v.people};
                for (int d = 0; d < 3; d++) {
                    y = (y * 1103515245L + 12345L) & 0xffffffffL;
                    draws[d] = (int) ((y / 256) % of[d]);
                }
                acts.add(draws[0] == 0 ? new int[] {1, draws[1], -1}
                    : draws[0] == 1 ? new int[] {2, 1, -1} : new int[] {0, draws[1], draws[2]});
            }
        } else {
            StringBuilder s = new StringBuilder();
            drawActs(v, r, acts);
            for (int[] act : acts) {
                s.append(act[0] == 0 ? "give " + act[1] + " " + World.name(act[2])
                    : act[0] == 1 ? "use " + act[1] : "wait " + act[1]).append(";");
            }
            same("plan", v, Check.plan(x, s.toString()), acts.size());
        }
        for (int i = 0; i < acts.size(); i++) {
            for (int k = 0; k < 3; k++) {
                same("act", v, x.act(i, k), acts.get(i)[k]);
            }
        }
        judged(v, x, acts);
    }

    /** Acts that are mostly right: a wrong one is drawn anew most times. */
    private static void drawActs(World v, Random r, List<int[]> acts) {
        int size = r.nextInt(30);
        for (int tries = 0; tries < 400 && acts.size() < size; tries++) {
            int kind = r.nextInt(10);
            int[] act = kind < 2 ? new int[] {2, 1 + r.nextInt(kind == 0 ? 8 : 2), -1}
                : kind < 4 ? new int[] {1, r.nextInt(v.units.size()), -1}
                : new int[] {0, r.nextInt(v.units.size()), r.nextInt(v.people)};
            acts.add(act);
            if (new Oracle(v).judge(acts) >= 0) {
                if (r.nextInt(60) == 0) {
                    return;
                }
                acts.remove(acts.size() - 1);
            }
        }
    }

    private static void judged(World v, ThirdHands x, List<int[]> acts) {
        Oracle o = new Oracle(v);
        same("judge", v, x.judge(), o.judge(acts));
        int[] due = {o.why, o.hour, o.met, o.painsDone, o.spoiltUnused(), -1};
        for (int k = 0; k < due.length; k++) {
            same("judged " + k, v, x.judged(k), due[k]);
        }
        for (int u = 0; u < v.units.size(); u++) {
            same("holds 0", v, x.holds(u, 0), o.who(u));
            same("holds 1", v, x.holds(u, 1), o.nth(u));
            same("holds 2", v, x.holds(u, 2), o.usable(u));
        }
    }

    private static void books(World v, Random r) {
        if (v.units.isEmpty() || v.people < 2) {
            return;
        }
        ThirdHands x = Check.of(v.text);
        Oracle o = new Oracle(v);
        List<List<int[]>> notes = new ArrayList<>();
        for (int u = 0; u < v.units.size(); u++) {
            notes.add(new ArrayList<>());
        }
        int told = 0;
        int span = 1 + r.nextInt(48);
        for (int k = 0; k < 60; k++) {
            int u = r.nextInt(v.units.size());
            int a = r.nextInt(v.people);
            int b = r.nextInt(v.people);
            int hour = r.nextInt(span);
            boolean fits = a != b && notes.get(u).size() < 8 && told < 40;
            same("note", v, x.note(u, a, b, hour), fits ? told : -1);
            if (fits) {
                notes.get(u).add(new int[] {a, b, hour});
                told++;
            }
        }
        same("notes", v, x.count(7), told);
        for (int u = 0; u < v.units.size(); u++) {
            int found = o.found(u, notes.get(u));
            List<int[]> left = o.truth(u, notes.get(u), found);
            same("lies 0", v, x.lies(u, 0), Integer.bitCount(found));
            same("lies 1", v, x.lies(u, 1), found);
            same("lies 2", v, x.lies(u, 2), left.isEmpty() ? v.units.get(u)[1] : left.get(left.size() - 1)[1]);
        }
    }
}
