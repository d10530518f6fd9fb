import java.util.ArrayList;
import java.util.List;
import java.util.Random;

/** A village drawn at random, with its text: what Oracle answers about and ThirdHands is told. */
final class World {
    int people;
    int[] town = new int[8];
    int[] asks = new int[8];
    int sorts;
    int[] life = new int[6];
    /** Things last long, go quickly and are wanted late: more wants can be met. */
    boolean kind;
    /** Each unit: sort, first, second first or -1, hour. */
    List<int[]> units = new ArrayList<>();
    /** Each want: who, sort, worth, by. */
    List<int[]> wants = new ArrayList<>();
    /** The told first of each 'makes', and its first unit. */
    List<int[]> makes = new ArrayList<>();
    int[][] pains = new int[8][8];
    int[][] hours = new int[8][8];
    int n = 3;
    int back = 1;
    String text;
    int lines;

    static final String[] BACKS = {"any", "first", "once", "towns"};

    static String name(int who) {
        return "" + (char) ('a' + who);
    }

    static String sortName(int sort) {
        return "s" + (char) ('a' + sort);
    }

    static World draw(Random r, int mostUnits, int mostWants) {
        World v = new World();
        v.kind = r.nextInt(3) > 0;
        v.people = v.kind ? 3 + r.nextInt(6) : 1 + r.nextInt(8);
        v.sorts = 1 + r.nextInt(r.nextInt(3) == 0 ? 3 : 2);
        StringBuilder s = new StringBuilder();
        boolean towns = r.nextBoolean();
        boolean asking = r.nextInt(3) > 0;
        for (int p = 0; p < v.people; p++) {
            s.append("who ").append(name(p));
            v.town[p] = towns ? r.nextInt(10) : 0;
            v.asks[p] = asking && r.nextBoolean() ? r.nextInt(r.nextBoolean() ? 6 : 100) : 0;
            if (v.town[p] > 0 || r.nextInt(9) == 0) {
                s.append(" of ").append(v.town[p]);
            }
            if (v.asks[p] > 0 || r.nextInt(9) == 0) {
                s.append(" asks ").append(v.asks[p]);
            }
            s.append(";");
            v.lines++;
        }
        boolean lasting = v.kind || r.nextBoolean();
        for (int t = 0; t < v.sorts; t++) {
            v.life[t] = lasting ? 48 : 1 + r.nextInt(20);
            s.append("sort ").append(sortName(t)).append(" ").append(v.life[t]).append(";\n");
            v.lines++;
        }
        for (int p = 0; p < 8; p++) {
            for (int q = 0; q < 8; q++) {
                v.pains[p][q] = -1;
            }
        }
        v.drawRest(r, s, mostUnits, mostWants);
        v.text = s.toString();
        return v;
    }

    private void drawRest(Random r, StringBuilder s, int mostUnits, int mostWants) {
        int density = (kind ? 30 : 10) + r.nextInt(kind ? 60 : 80);
        boolean slow = !kind && r.nextBoolean();
        boolean cheap = r.nextBoolean();
        List<String> rows = new ArrayList<>();
        for (int p = 0; p < people; p++) {
            for (int q = 0; q < people; q++) {
                if (p != q && r.nextInt(100) < density && rows.size() < 40) {
                    pains[p][q] = r.nextInt(cheap ? 3 : 30);
                    hours[p][q] = r.nextInt(slow ? 10 : 2);
                    rows.add("gives " + name(p) + " " + name(q) + " " + pains[p][q] + " " + hours[p][q] + ";");
                }
            }
        }
        if (r.nextInt(4) > 0) {
            n = 2 + r.nextInt(r.nextInt(3) == 0 ? 5 : 3);
            back = r.nextInt(4);
            rows.add(r.nextInt(Math.max(1, rows.size())), "law " + n + " " + BACKS[back] + ";");
        }
        for (int k = (kind ? 2 : 0) + r.nextInt(4); k > 0; k--) {
            drawMakes(r, rows, mostUnits);
        }
        for (int k = kind ? mostWants - r.nextInt(2) : r.nextInt(mostWants + 1); k > 0; k--) {
            drawWant(r, rows);
        }
        int size = s.length();
        for (String row : rows) {
            size += row.length();
        }
        if (size > 1000) {
            throw new IllegalStateException("the test's own village is too long");
        }
        for (String row : rows) {
            s.append(row);
            lines++;
        }
    }

    private void drawMakes(Random r, List<String> rows, int mostUnits) {
        int made = 1 + r.nextInt(3);
        if (units.size() + made > mostUnits) {
            return;
        }
        int first = r.nextInt(people);
        int second = r.nextInt(3) == 0 ? r.nextInt(people) : -1;
        second = second == first ? -1 : second;
        int sort = r.nextInt(sorts);
        int hour = r.nextInt(kind ? 8 : 3) == 0 ? r.nextInt(48) : r.nextInt(4);
        makes.add(new int[] {first, units.size()});
        for (int k = 0; k < made; k++) {
            units.add(new int[] {sort, first, second, hour});
        }
        rows.add("makes " + name(first) + (second < 0 ? "" : " with " + name(second)) + " " + sortName(sort) + " "
            + made + " " + hour + ";");
    }

    private void drawWant(Random r, List<String> rows) {
        int who = r.nextInt(people);
        int sort = r.nextInt(sorts);
        int worth = r.nextInt(r.nextBoolean() ? 12 : 200);
        int by = r.nextInt(kind ? 5 : 2) > 0 ? 47 : r.nextInt(48);
        wants.add(new int[] {who, sort, worth, by});
        rows.add("wants " + name(who) + " " + sortName(sort) + " " + worth + (by == 47 ? "" : " by " + by) + ";");
    }
}
