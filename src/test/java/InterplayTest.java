import java.util.ArrayList;
import java.util.Arrays;
import java.util.List;
import java.util.Random;

/**
 * Calls of all kinds in any order on one object: what village, plan, book, images and each "latest" answer
 * is kept beside it (promises 4, 10, 15 to 20, 24, 26 to 31, 36 to 40) and reckoned by Oracle.
 */
public final class InterplayTest {
    /** VILLAGE, PLAN and BOOK: what an image keeps. */
    private record State(World world, List<int[]> acts, List<int[]> notes) {
    }

    /** A step takes some 80 calls at most, and an object is promised for 512. */
    private static final int CALLS = 430;

    private final Random r;
    private final int round;
    private final ThirdHands x = new ThirdHands();
    private State now;
    private final State[] images = new State[2];
    private String done = "";
    private int calls;

    private List<Integer> hands = new ArrayList<>();
    private int[] gains = {};
    private int[] asks = {};
    private int middleGets = -1;
    private int starving = -1;
    private int fault;
    private Oracle judged;

    private InterplayTest(int round) {
        this.round = round;
        r = new Random(7000 + round);
        newVillage();
    }

    public static void main(String[] args) {
        for (int round = 1; round <= 1500; round++) {
            InterplayTest test = new InterplayTest(round);
            while (test.calls < CALLS) {
                test.step();
            }
        }
        Check.finish("calls in any order");
    }

    private void same(String what, long got, long due) {
        calls++;
        Check.same(got == due ? what : "object " + round + " behind" + done + ": " + what, got, due);
    }

    private Oracle oracle() {
        return new Oracle(now.world);
    }

    private void step() {
        int kind = r.nextInt(20);
        done = done + " " + kind;
        switch (kind) {
            case 0: newVillage(); break;
            case 1: badText(); break;
            case 2: case 3: newPlan(); break;
            case 4: case 5: note(); break;
            case 6: image(); break;
            case 7: case 8: restore(); break;
            case 9: judge(); break;
            case 10: way(); break;
            case 11: ring(); break;
            case 12: middle(); break;
            case 13: quarrel(); break;
            case 14: sets(); break;
            case 15: other(); break;
            default: best(); break;
        }
        stateStands();
        latestStands();
    }

    private void newVillage() {
        World v = World.draw(r, 6, 4);
        calls += 3 + v.text.length() / 20;
        same("village", Check.village(x, v.text), v.lines);
        now = new State(v, List.of(), List.of());
        fault = 0;
    }

    /** Promises 4 and 15: the VILLAGE and the PLAN stay with a FAULT. */
    private void badText() {
        calls += 3;
        if (r.nextBoolean()) {
            same("village of who", Check.village(x, "who zz;who"), -11);
            fault = 1;
        } else {
            same("plan of wait", Check.plan(x, "wait 1;wait 48;"), -13);
            fault = 2;
        }
    }

    private void newPlan() {
        World v = now.world;
        List<int[]> acts = new ArrayList<>();
        StringBuilder s = new StringBuilder();
        for (int k = r.nextInt(12); k > 0 && !v.units.isEmpty(); k--) {
            int[] act = likelyAct(acts);
            acts.add(act);
            s.append(act[0] == 0 ? "give " + act[1] + " " + World.name(act[2])
                : act[0] == 1 ? "use " + act[1] : "wait " + act[1]).append(";");
        }
        calls += 3 + s.length() / 20;
        same("plan", Check.plan(x, s.toString()), acts.size());
        now = new State(v, acts, now.notes);
        fault = 0;
    }

    /** An ACT that goes well, if a few tries find one. */
    private int[] likelyAct(List<int[]> acts) {
        int[] act = {2, 1, -1};
        for (int tries = 0; tries < 30; tries++) {
            int unit = r.nextInt(now.world.units.size());
            int kind = r.nextInt(4);
            act = kind == 0 ? new int[] {2, 1 + r.nextInt(3), -1} : kind == 1 ? new int[] {1, unit, -1}
                : new int[] {0, unit, r.nextInt(now.world.people)};
            List<int[]> more = new ArrayList<>(acts);
            more.add(act);
            if (oracle().judge(more) < 0) {
                return act;
            }
        }
        return act;
    }

    private void note() {
        World v = now.world;
        if (v.units.isEmpty() || v.people < 2) {
            return;
        }
        for (int k = 0; k < 4; k++) {
            int u = r.nextInt(Math.min(2, v.units.size()));
            int a = r.nextInt(v.people);
            int b = (a + 1 + r.nextInt(v.people - 1)) % v.people;
            int hour = r.nextInt(48);
            boolean fits = now.notes.size() < 40 && now.notes.stream().filter(n -> n[0] == u).count() < 8;
            same("note", x.note(u, a, b, hour), fits ? now.notes.size() : -1);
            if (fits) {
                List<int[]> more = new ArrayList<>(now.notes);
                more.add(new int[] {u, a, b, hour});
                now = new State(v, now.acts, more);
            }
        }
    }

    private void image() {
        int k = r.nextInt(2);
        same("image", x.image(k) ? 1 : 0, 1);
        images[k] = now;
    }

    private void restore() {
        int k = r.nextInt(2);
        same("restore", x.restore(k) ? 1 : 0, images[k] == null ? 0 : 1);
        now = images[k] == null ? now : images[k];
    }

    private void judge() {
        judged = oracle();
        same("judge", x.judge(), judged.judge(now.acts));
    }

    private void way() {
        if (now.world.units.isEmpty() || now.world.wants.isEmpty()) {
            return;
        }
        int u = r.nextInt(now.world.units.size());
        int w = r.nextInt(now.world.wants.size());
        List<Integer> path = oracle().taken(u, w);
        same("way", x.way(u, w, 0), path == null ? -1 : oracle().costOf(path));
        hands = path == null ? hands : path;
        same("latest", x.latest(u, w), oracle().latest(u, w));
    }

    private void ring() {
        List<Integer> ring = new ArrayList<>();
        for (int p = 0; p < now.world.people; p++) {
            if (r.nextInt(3) > 0) {
                ring.add(r.nextInt(ring.size() + 1), p);
            }
        }
        if (ring.size() < 2) {
            return;
        }
        int[] people = ring.stream().mapToInt(Integer::intValue).toArray();
        calls += 6;
        Oracle o = oracle();
        int due = o.ring(ring);
        same("ring", Check.ring(x, people), due);
        gains = due < 0 ? gains : o.gains;
        same("lasts", Check.lasts(x, people), oracle().lasts(ring));
    }

    private void middle() {
        int who = r.nextInt(now.world.people);
        Oracle o = oracle();
        same("middle", x.middle(who), o.middle(who));
        middleGets = o.gets;
        if (r.nextBoolean()) {
            Oracle all = oracle();
            same("rest", x.rest(), all.rest());
            asks = Arrays.copyOf(all.asks, now.world.people);
        }
    }

    private void quarrel() {
        int a = r.nextInt(now.world.people);
        int b = r.nextInt(now.world.people);
        Oracle o = oracle();
        same("quarrel", x.quarrel(a, b), a == b ? -1 : o.quarrel(a, b));
        starving = a == b ? starving : o.unmet();
    }

    private void sets() {
        int kind = r.nextInt(3);
        if (kind == 0) {
            same("mend", x.mend(), oracle().mend());
        } else if (kind == 1) {
            same("live", x.live(), oracle().live());
        } else {
            same("stop", x.stop(), oracle().stop());
        }
    }

    private void other() {
        Oracle o = oracle();
        o.n = 2 + r.nextInt(3);
        o.back = r.nextInt(4);
        o.best();
        same("other 0", x.other(o.n, o.back, 0), o.most());
        same("other 1", x.other(o.n, o.back, 1), o.bestSum);
    }

    private void best() {
        Oracle o = oracle();
        o.best();
        same("best 0", x.best(0), o.bestSum);
        same("best 2", x.best(2), o.bestPains());
        same("most", x.most(), o.most());
        same("bars", x.bars(), o.bars());
        for (int w = 0; w < now.world.wants.size(); w++) {
            same("bestOf", x.bestOf(w), o.bestUnits[w]);
        }
    }

    private void stateStands() {
        World v = now.world;
        int[] due = {v.people, v.sorts, v.units.size(), v.wants.size(), v.n, v.back, now.acts.size(), now.notes.size(), 0};
        int what = r.nextInt(due.length);
        same("count " + what, x.count(what), due[what]);
        same("fault", x.fault(), fault);
        if (!now.acts.isEmpty()) {
            int i = r.nextInt(now.acts.size());
            int k = r.nextInt(3);
            same("act", x.act(i, k), now.acts.get(i)[k]);
        }
        if (!v.units.isEmpty()) {
            int u = r.nextInt(v.units.size());
            List<int[]> notes = new ArrayList<>();
            for (int[] note : now.notes) {
                if (note[0] == u) {
                    notes.add(new int[] {note[1], note[2], note[3]});
                }
            }
            same("lies", x.lies(u, 1), oracle().found(u, notes));
            same("unit", x.unit(u, 3), v.units.get(u)[3]);
        }
    }

    /** What calls told last is asked of later, whatever VILLAGE stands then. */
    private void latestStands() {
        int k = r.nextInt(7);
        same("hand", x.hand(k), k < hands.size() ? hands.get(k) : -1);
        same("gain", Check.of(() -> x.gain(k)), k < gains.length ? gains[k] : Check.THROWS);
        same("restOf", x.restOf(k), k < asks.length ? asks[k] : -1);
        same("middleBy", x.middleBy(), middleGets);
        same("starves", x.starves(), starving);
        if (judged == null) {
            same("judged", x.judged(1), -1);
            same("holds", x.holds(0, 1), -1);
            return;
        }
        int[] due = {judged.why, judged.hour, judged.met, judged.painsDone, judged.spoiltUnused()};
        int what = r.nextInt(due.length);
        same("judged " + what, x.judged(what), due[what]);
        boolean there = k < judged.v.units.size();
        same("holds 0", x.holds(k, 0), there ? judged.who(k) : -1);
        same("holds 2", x.holds(k, 2), there ? judged.usable(k) : -1);
    }
}
