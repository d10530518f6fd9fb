/** Promises 9 to 14, 21 to 26 and 30 to 35: ways, wants met, asking and what-ifs. */
public final class MarketTest {
    private MarketTest() {
    }

    public static void main(String[] args) {
        waysTaken();
        backs();
        towns();
        times();
        hands();
        mostAndBars();
        best();
        bestTies();
        latest();
        middles();
        rests();
        quarrels();
        mends();
        lives();
        stops();
        others();
        nothing();
        Check.finish("market");
    }

    private static void path(ThirdHands x, int u, int w, int... due) {
        x.way(u, w, 0);
        for (int k = 0; k < due.length; k++) {
            Check.same("hand " + k, x.hand(k), due[k]);
        }
        Check.same("the hand behind the last", x.hand(due.length), -1);
    }

    private static void waysTaken() {
        // a to d by b (pains 5, hours 1), by c (pains 3, asks 2, hours 0): like costs, c has less hours
        ThirdHands x = Check.of("who a;who b;who c asks 2;who d;sort s 9;makes a s 1 0;wants d s 9;"
            + "gives a b 4 1;gives b d 1 0;gives a c 2 0;gives c d 1 0;");
        Check.same("cost", x.way(0, 0, 0), 5);
        Check.same("hours", x.way(0, 0, 1), 0);
        Check.same("pains", x.way(0, 0, 2), 3);
        path(x, 0, 0, 0, 2, 3);
        // like costs and hours: the first hands
        x = Check.of("who a;who b;who c;who d;sort s 9;makes d with a s 1 0;wants d s 9;"
            + "gives a c 1 0;gives c d 1 0;gives a b 2 1;gives b d 0 0;gives d c 1 0;gives d b 1 1;");
        path(x, 0, 0, 3, 1, 3);
        Check.same("cost", x.way(0, 0, 0), 1);
        x = Check.of("who a;who b;who c;who d;sort s 9;makes d with a s 1 0;wants d s 9;"
            + "gives d c 1 0;gives c d 1 0;gives a b 1 0;gives b d 1 0;gives a c 1 0;");
        path(x, 0, 0, 0, 1, 3);
        // who asks in the middle twice is asked twice; the ends ask nothing
        x = Check.of("who a asks 50;who b asks 3;who c asks 7;sort s 9;makes a s 1 0;wants c s 9;"
            + "gives a b 1 0;gives b a 1 0;gives b c 1 0;law 4 any;");
        Check.same("ways of 4", x.ways(0, 0, 4), 0);
        x = Check.of("who a asks 50;who b asks 3;who c asks 7;sort s 9;makes a s 1 0;wants c s 9;"
            + "gives a b 1 0;gives b a 1 0;gives b c 1 0;law 5 any;");
        path(x, 0, 0, 0, 1, 0, 1, 2);
        Check.same("cost", x.way(0, 0, 0), 4 + 3 + 50 + 3);
        Check.same("pains", x.way(0, 0, 2), 4);
    }

    private static final String FOUR = "who a;who b;who c;sort s 9;makes a s 1 0;makes a with b s 1 0;"
        + "wants c s 9;wants a s 9;gives a b 1 1;gives b a 1 1;gives b c 1 1;gives c b 1 1;gives a c 1 1;";

    private static void backs() {
        // unit 0 is a's, unit 1 is a's and b's; want 0 is c's, want 1 is a's
        int[][] due = {
            // unit 0: a b a c, a c b c; unit 1: b a b c, b c b c too
            {2, 4},
            // c comes twice in a c b c and in b c b c
            {1, 2},
            {0, 0},
            {0, 0}};
        for (int back = 0; back < 4; back++) {
            ThirdHands x = Check.of(FOUR + "law 3 " + World.BACKS[back] + ";");
            Check.same("ways of 4, unit 0, back " + back, x.ways(0, 0, 4), due[back][0]);
            Check.same("ways of 4, unit 1, back " + back, x.ways(1, 0, 4), due[back][1]);
        }
        // 3 hands to c: a b c, of unit 1 b a c too; to a: a b a
        int[][] three = {{1, 2, 1, 1}, {1, 2, 1, 1}, {1, 0, 0, 0}, {0, 0, 0, 0}};
        for (int back = 0; back < 4; back++) {
            ThirdHands x = Check.of(FOUR + "law 3 " + World.BACKS[back] + ";");
            Check.same("to c, unit 0, back " + back, x.ways(0, 0, 3), three[back][0]);
            Check.same("to c, unit 1, back " + back, x.ways(1, 0, 3), three[back][1]);
            Check.same("to a, unit 0, back " + back, x.ways(0, 1, 3), three[back][2]);
            Check.same("to a, unit 1, back " + back, x.ways(1, 1, 3), three[back][3]);
        }
        ThirdHands x = Check.of(FOUR);
        Check.same("ways of 2", x.ways(0, 0, 2), 1);
        // by steps, at a, b, c: 0 1 1, 1 1 1, 1 2 2, 2 3 3, 3 5 5
        Check.same("ways of 6", Check.of(FOUR + "law 2 any;").ways(0, 0, 6), 5);
        Check.same("ways of 1", x.ways(0, 0, 1), -1);
        Check.same("ways of 7", x.ways(0, 0, 7), -1);
        Check.same("ways of no unit", x.ways(2, 0, 3), -1);
        Check.same("ways of no unit", x.ways(-1, 0, 3), -1);
        Check.same("ways for no want", x.ways(0, 2, 3), -1);
        Check.same("ways for no want", x.ways(0, -1, 3), -1);
    }

    private static void towns() {
        ThirdHands x = Check.of("who a of 1;who b of 2;who c;who d of 1;who e of 2;sort s 9;makes a s 1 0;"
            + "wants c s 9;wants d s 9;gives a b 1 0;gives b c 1 0;gives a e 3 0;gives e c 1 0;gives b d 1 0;"
            + "gives b e 0 0;law 3 towns;");
        Check.same("ways to another town", x.ways(0, 0, 3), 2);
        Check.same("ways to his own town", x.ways(0, 1, 3), 0);
        Check.same("b and e are of one town", x.ways(0, 0, 4), 0);
        path(x, 0, 0, 0, 1, 2);
        Check.same("way to his own town", x.way(0, 1, 0), -1);
    }

    private static void times() {
        // unit made at 5, spoils at 8; two givings of an hour each end at 7
        String town = "who a;who b;who c;sort s 3;makes a s 1 5;gives a b 1 1;gives b c 1 ";
        Check.same("by 7", Check.of(town + "1;wants c s 9 by 7;").way(0, 0, 1), 2);
        Check.same("by 6", Check.of(town + "1;wants c s 9 by 6;").way(0, 0, 1), -1);
        Check.same("spoilt at 8", Check.of(town + "2;wants c s 9;").way(0, 0, 1), -1);
        Check.same("ways by 6", Check.of(town + "1;wants c s 9 by 6;").ways(0, 0, 3), 0);
        Check.same("ways by 7", Check.of(town + "1;wants c s 9 by 7;").ways(0, 0, 3), 1);
        // the dear but quick one is taken, if the cheap one is too slow
        ThirdHands x = Check.of("who a;who b;who c;who d;sort s 9;makes a s 1 0;wants d s 9 by 3;wants d s 9;"
            + "gives a b 1 2;gives b d 1 2;gives a c 9 1;gives c d 9 1;");
        Check.same("cost in haste", x.way(0, 0, 0), 18);
        Check.same("cost with time", x.way(0, 1, 0), 2);
        Check.same("made behind by", Check.of("who a;who b;sort s 9;makes a s 1 5;wants b s 1 by 4;gives a b 0 0;"
            + "law 2 any;").way(0, 0, 0), -1);
        Check.same("made at by", Check.of("who a;who b;sort s 9;makes a s 1 4;wants b s 1 by 4;gives a b 0 0;"
            + "law 2 any;").way(0, 0, 0), 0);
    }

    private static void hands() {
        ThirdHands x = Check.of("who a;who b;who c;sort s 9;sort t 9;makes a s 1 0;wants c s 9;wants c t 9;"
            + "gives a b 1 0;gives b c 1 0;");
        Check.same("no way told yet", x.hand(0), -1);
        Check.same("way of another what", x.way(0, 0, 3), -1);
        Check.same("way of another what", x.way(0, 0, -1), -1);
        Check.same("still no way told", x.hand(0), -1);
        path(x, 0, 0, 0, 1, 2);
        Check.same("a hand below", x.hand(-1), -1);
        Check.same("another sort", x.way(0, 1, 0), -1);
        Check.same("no unit", x.way(1, 0, 0), -1);
        Check.same("no unit", x.way(-1, 0, 0), -1);
        Check.same("no want", x.way(0, 2, 0), -1);
        Check.same("no want", x.way(0, -1, 0), -1);
        Check.same("the hand stays", x.hand(2), 2);
        Check.village(x, "who a;who b;sort s 9;makes b s 1 0;wants a s 5;gives b a 1 0;law 2 first;");
        Check.same("the hand of the old village", x.hand(2), 2);
        path(x, 0, 0, 1, 0);
    }

    private static void mostAndBars() {
        // two wants for one unit, a third one for a unit of its own, a fourth for none
        String town = "who a;who b;who c;sort s 9;sort t 9;makes a s 1 0;makes b t 1 0;"
            + "wants b s 5;wants c s 6;wants a t 7;gives a b 1 0;gives b a 1 0;gives a c 1 0;law 2 first;";
        ThirdHands x = Check.of(town);
        Check.same("most", x.most(), 2);
        Check.same("bars", x.bars(), 3);
        x = Check.of(town + "wants c t 5;");
        Check.same("most", x.most(), 2);
        Check.same("one alone is fewest", x.bars(), 8);
        x = Check.of(town.replace("wants c s 6;", "").replace("wants a t 7;", "wants a s 1;"));
        Check.same("the one without a way", x.bars(), 2);
        Check.same("most", x.most(), 1);
        // three wants, two units for all of them
        x = Check.of("who a;who b;sort s 9;makes a s 2 0;wants b s 1;wants b s 1;wants b s 1;gives a b 9 0;law 2 any;");
        Check.same("three bar", x.bars(), 7);
        Check.same("most counts though it pays not", x.most(), 2);
        Check.same("best meets none", x.best(1), 0);
        // two pairs bar: the lesser as bits
        x = Check.of("who a;who b;sort s 9;sort t 9;makes a s 1 0;makes a t 1 0;wants b s 1;wants b t 1;wants b t 1;"
            + "wants b s 1;gives a b 0 0;law 2 any;");
        Check.same("wants 1 and 2 bar, 0 and 3 are greater bits", x.bars(), 6);
    }

    private static void best() {
        // two units, three wants: 9, 5 and 7 less the costs 1 (to b) and 4 (to c)
        ThirdHands x = Check.of("who a;who b;who c;sort s 9;makes a s 2 0;wants b s 5;wants c s 9;wants b s 7;"
            + "gives a b 1 0;gives a c 4 0;law 2 any;");
        Check.same("sum", x.best(0), 6 + 5);
        Check.same("met", x.best(1), 2);
        Check.same("pains", x.best(2), 5);
        Check.same("another what", x.best(3), -1);
        Check.same("another what", x.best(-1), -1);
        Check.same("bestOf 0", x.bestOf(0), -1);
        Check.same("bestOf 1", x.bestOf(1), 0);
        Check.same("bestOf 2", x.bestOf(2), 1);
        Check.same("bestOf none", x.bestOf(3), -1);
        Check.same("bestOf none", x.bestOf(-1), -1);
        // the greatest sum leaves a want that could be met
        x = Check.of("who a;who b;sort s 9;makes a s 1 0;wants b s 4;gives a b 5 0;law 2 any;");
        Check.same("most", x.most(), 1);
        Check.same("sum", x.best(0), 0);
        Check.same("met", x.best(1), 0);
    }

    private static void bestTies() {
        // worth as much as it costs: met, as more wants are
        ThirdHands x = Check.of("who a;who b;sort s 9;makes a s 1 0;wants b s 5;gives a b 5 0;law 2 any;");
        Check.same("sum", x.best(0), 0);
        Check.same("met", x.best(1), 1);
        Check.same("pains", x.best(2), 5);
        Check.same("bestOf", x.bestOf(0), 0);
        // like sums by one want or by two: two
        x = Check.of("who a;who b;who c;sort s 9;makes a s 1 0;makes c s 1 0;wants b s 6;wants b s 2;"
            + "gives a b 1 0;gives c b 2 0;law 2 any;");
        Check.same("sum", x.best(0), 5);
        Check.same("met", x.best(1), 2);
        Check.same("want 0 has the lesser unit", x.bestOf(0), 0);
        Check.same("want 1 has the other", x.bestOf(1), 1);
        // like wants: the first is met, by the lesser unit
        x = Check.of("who a;who b;sort s 9;makes a s 1 3;makes a s 1 0;wants b s 6;wants b s 6;wants b s 6 by 2;"
            + "gives a b 1 0;law 2 any;");
        Check.same("bestOf 0", x.bestOf(0), 0);
        Check.same("bestOf 1", x.bestOf(1), 1);
        Check.same("bestOf 2", x.bestOf(2), -1);
    }

    private static void latest() {
        // the quickest of the ways, though it is dear: 2 hours
        ThirdHands x = Check.of("who a;who b;who c;who d;sort s 9;makes a s 1 4;wants d s 9 by 9;wants d s 9;"
            + "wants d s 9 by 5;gives a b 1 2;gives b d 1 2;gives a c 9 1;gives c d 9 1;");
        Check.same("by 9", x.latest(0, 0), 7);
        Check.same("spoilt at 13", x.latest(0, 1), 10);
        Check.same("by 5", x.latest(0, 2), -1);
        Check.same("no unit", x.latest(1, 0), -1);
        Check.same("no want", x.latest(0, 3), -1);
        Check.same("no unit", x.latest(-1, 0), -1);
        Check.same("no want", x.latest(0, -1), -1);
        x = Check.of("who a;who b;sort s 48;sort t 9;makes a s 1 47;wants b s 9;wants b t 9;gives a b 0 0;law 2 any;");
        Check.same("the last hour", x.latest(0, 0), 47);
        Check.same("another sort", x.latest(0, 1), -1);
    }

    private static void middles() {
        // worth 9, pains 2: b may ask up to 7, as the want is met even without gain
        String town = "who a;who b;who c;sort s 9;makes a s 1 0;wants c s 9;gives a b 1 0;gives b c 1 0;";
        ThirdHands x = Check.of(town);
        Check.same("ahead of any", x.middleBy(), -1);
        Check.same("middle", x.middle(1), 7);
        Check.same("gets", x.middleBy(), 7);
        Check.same("nobody", x.middle(3), -1);
        Check.same("nobody", x.middle(-1), -1);
        Check.same("gets stays", x.middleBy(), 7);
        Check.same("the ends get nothing", x.middle(0), 0);
        Check.same("gets", x.middleBy(), 0);
        Check.same("what is told stays", x.best(0), 7);
        x = Check.of(town.replace("who b", "who b asks 4"));
        Check.same("middle", x.middle(1), 7);
        Check.same("as told behind it", x.other(3, 1, 1), 3);
        Check.same("as told behind it", x.quarrel(0, 2), 1);
        // two wants of 9 and of 3: asking 1 gets 2, asking 7 gets 7
        x = Check.of(town + "makes a s 1 0;wants c s 3;");
        Check.same("middle", x.middle(1), 7);
        // two of 9 and of 5: 3 of both is 6, 7 of one is 7; of 9 and 6: 4 of both is 8
        x = Check.of(town + "makes a s 1 0;wants c s 6;");
        Check.same("middle", x.middle(1), 4);
        Check.same("gets", x.middleBy(), 8);
        // not more than 20
        x = Check.of(town.replace("wants c s 9", "wants c s 99"));
        Check.same("middle", x.middle(1), 20);
        // a rival d asks 3 as told and costs as much: b takes the hands at 3, being the first
        x = Check.of(town + "who d asks 3;gives a d 1 0;gives d c 1 0;");
        Check.same("middle", x.middle(1), 3);
        Check.same("d must ask less than b, who asks nothing", x.middle(3), 0);
        Check.same("gets", x.middleBy(), 0);
        // a slow rival loses at like costs
        x = Check.of(town.replace("gives a b 1 0", "gives a b 1 1") + "who d asks 3;gives a d 1 0;gives d c 1 0;");
        Check.same("middle", x.middle(1), 2);
        // twice in the middle counts twice: worth 9 less pains 4 leaves 2 for each time
        x = Check.of("who a;who b;who c;sort s 9;makes a s 1 0;wants c s 9;gives a b 1 0;gives b a 1 0;gives b c 1 0;"
            + "law 5 any;");
        Check.same("middle", x.middle(1), 2);
        Check.same("gets", x.middleBy(), 4);
        // of like gets the least ask: 5 with two wants met, 10 with one
        x = Check.of("who a;who b;who c;sort s 9;makes a s 2 0;wants c s 10;wants c s 5;gives a b 0 0;gives b c 0 0;");
        Check.same("middle", x.middle(1), 5);
        Check.same("gets", x.middleBy(), 10);
    }

    private static void rests() {
        String town = "who a;who b asks 2;who c;sort s 9;makes a s 1 0;wants c s 9;gives a b 1 0;gives b c 1 0;";
        ThirdHands x = Check.of(town);
        Check.same("ahead of any", x.restOf(0), -1);
        Check.same("rest", x.rest(), 2);
        Check.same("restOf b", x.restOf(1), 7);
        Check.same("restOf a", x.restOf(0), 0);
        Check.same("restOf nobody", x.restOf(3), -1);
        Check.same("restOf nobody", x.restOf(-1), -1);
        Check.same("what is told stays", x.best(0), 5);
        Check.same("who asks nothing as told stays so", rested(town.replace(" asks 2", "")), 1);
        Check.same("who asks it already", rested(town.replace("asks 2", "asks 7")), 1);
        // b and d undercut one another: d asks one less than b, b as much as d (he is the first), ..
        x = Check.of(town + "who d asks 4;gives a d 1 0;gives d c 1 0;");
        // 1: b 4, d 3; 2: b 3, d 2; 3: b 2, d 1; 4: b 1, d 0; 5: b 0; 6: nobody
        Check.same("rest of rivals", x.rest(), 6);
        Check.same("restOf b", x.restOf(1), 0);
        Check.same("restOf d", x.restOf(3), 0);
        x = Check.of(town + "who d asks 5;gives a d 1 0;gives d c 1 0;");
        // 1: b 5, d 4; 2: 4, 3; 3: 3, 2; 4: 2, 1; 5: 1, 0; 6: b 0
        Check.same("rest of rivals too long", x.rest(), -1);
        Check.same("restOf b", x.restOf(1), 0);
        Check.village(x, "who a;");
        Check.same("of the village then", x.restOf(3), 0);
        Check.same("rest", x.rest(), 1);
        Check.same("of the village now", x.restOf(3), -1);
    }

    private static int rested(String town) {
        return Check.of(town).rest();
    }

    private static void quarrels() {
        String town = "who a;who b;who c;who d;sort s 9;makes a s 2 0;wants c s 9;wants b s 3;wants a s 1;"
            + "gives a b 1 0;gives b c 1 0;gives c b 1 0;gives a d 3 0;gives d c 1 0;gives b a 1 0;gives a c 1 0;";
        ThirdHands x = Check.of(town);
        Check.same("ahead of any", x.starves(), -1);
        Check.same("most", x.most(), 2);
        // without b and c: c by d, a by b; b has none
        Check.same("quarrel of b and c", x.quarrel(1, 2), 2);
        // a's own want is worth 1 and costs 2
        Check.same("starves", x.starves(), 6);
        Check.same("quarrel of c and b", x.quarrel(2, 1), 2);
        Check.same("one", x.quarrel(1, 1), -1);
        Check.same("nobody", x.quarrel(1, 4), -1);
        Check.same("nobody", x.quarrel(-1, 1), -1);
        Check.same("starves stays", x.starves(), 6);
        Check.same("quarrel of those who give not", x.quarrel(1, 3), 2);
        Check.same("starves as best", x.starves(), 4);
        Check.same("what is told stays", x.giving(1, 2, 0), 1);
        Check.same("most stays", x.most(), 2);
        Check.village(x, "");
        Check.same("of the village then", x.starves(), 4);
    }

    private static void mends() {
        // a to c by b wants one giving more: b to c
        ThirdHands x = Check.of("who a;who b;who c;sort s 9;makes a s 2 0;wants c s 9;gives a b 9 0;");
        Check.same("mend", x.mend(), 12);
        Check.same("nothing is told by it", x.giving(1, 2, 0), -1);
        Check.same("most stays", x.most(), 0);
        Check.same("in an hour", Check.of("who a;who b;who c;sort s 9;makes a s 2 0;wants c s 9 by 3;gives a b 9 3;")
            .mend(), -1);
        Check.same("in an hour", Check.of("who a;who b;who c;sort s 9;makes a s 2 0;wants c s 9 by 4;gives a b 9 3;")
            .mend(), 12);
        Check.same("all can be met already", Check.of("who a;who b;sort s 9;makes a s 2 0;wants b s 9;"
            + "gives a b 9 0;law 2 any;").mend(), -1);
        Check.same("two givings lack", Check.of("who a;who b;who c;sort s 9;makes a s 2 0;wants c s 9;").mend(), -1);
        // one giving may be used twice: a b a b needs a to b alone, with b to a told
        Check.same("used twice", Check.of("who a;who b;sort s 9;makes a s 2 0;wants b s 9;gives b a 9 0;law 4 any;")
            .mend(), 1);
        // the one with the greatest most: c to d lets two wants be met, b to c one
        x = Check.of("who a;who b;who c;who d;sort s 9;makes a s 2 0;wants c s 9;wants d s 9;wants d s 9;"
            + "gives a b 1 0;gives a c 1 0;");
        Check.same("greatest", x.mend(), 13);
        x = Check.of("who a;who b;who c;who d;sort s 9;makes a s 2 0;wants b s 9;wants d s 9;wants d s 9;"
            + "gives a c 1 0;");
        Check.same("greatest", x.mend(), 23);
    }

    private static void lives() {
        // c needs a and b, a needs d
        ThirdHands x = Check.of("who a;who b;who c;who d;sort s 9;sort t 9;makes a s 2 0;makes d t 1 0;wants c s 9;"
            + "wants a t 9;gives a b 1 0;gives b c 1 0;gives d c 1 0;gives c a 1 0;");
        Check.same("all", x.live(), 15);
        x = Check.of("who a;who b;who c;who d;sort s 9;makes a s 1 0;wants c s 9;wants d s 9;gives a b 1 0;"
            + "gives b c 1 0;gives b d 1 0;");
        Check.same("c or d, not both", x.live(), 7);
        x = Check.of("who a;who b;sort s 9;makes a s 1 0;wants a s 9;gives a b 1 0;gives b a 1 0;");
        Check.same("two", x.live(), 3);
        // a partner must live there too, though the other gives
        x = Check.of("who a;who b;who c;sort s 9;makes a with c s 1 0;wants a s 9;gives a b 1 0;gives b a 1 0;");
        Check.same("partner", x.live(), 7);
        Check.same("a want that none can meet", Check.of("who a;who b;sort s 9;makes a s 1 0;wants b s 1;wants b s 2;"
            + "gives a b 1 0;law 2 any;").live(), 0);
        // fewest ahead of lesser bits: d and e are two, a, b and c are three
        x = Check.of("who a;who b;who c;who d;who e;sort s 9;makes a s 1 0;makes d s 1 0;wants c s 9;wants d s 1;"
            + "gives a b 1 0;gives b c 1 0;gives d e 1 0;gives e d 1 0;");
        Check.same("fewest", x.live(), 24);
        x = Check.of("who a;who b;who c;who d;who e;sort s 9;makes a s 1 0;makes d s 1 0;wants c s 9;wants d s 1;"
            + "gives a b 1 0;gives b c 1 0;gives d e 1 0;gives e d 1 0;wants e s 1;");
        Check.same("two wants and one unit", x.live(), 7);
        Check.same("without wants", Check.of("who a;who b;sort s 9;makes a s 1 0;gives a b 1 0;").live(), 0);
    }

    private static void stops() {
        String town = "who a;who b;who c;who d;sort s 9;makes a s 1 0;wants d s 9;gives a b 1 0;gives b d 1 0;"
            + "gives a c 1 0;gives c d 1 0;";
        Check.same("the maker", Check.of(town).stop(), 1);
        Check.same("no want can be met", Check.of(town + "law 2 any;").stop(), 0);
        // two makers: both of them or both middles, a and b are the lesser bits
        Check.same("two", Check.of(town + "who e;makes e s 1 0;gives e b 1 0;gives e c 1 0;").stop(), 6);
        Check.same("one middle", Check.of(town.replace("gives a c 1 0;", "") + "who e;makes e s 1 0;gives e b 1 0;")
            .stop(), 2);
        // who wants may take still, though he gives nothing
        Check.same("the last hand does not stop it", Check.of("who a;who b;sort s 9;makes b s 1 0;wants a s 9;"
            + "gives b a 1 0;law 2 any;").stop(), 2);
    }

    private static void others() {
        ThirdHands x = Check.of(FOUR);
        // law 2: a to c straight (pains 1); to a: b of unit 1 (pains 1)
        Check.same("most of 2 any", x.other(2, 0, 0), 2);
        Check.same("sum of 2 any", x.other(2, 0, 1), 16);
        Check.same("pains of 2 any", x.other(2, 0, 2), 2);
        Check.same("once: no first comes later", x.other(2, 2, 0), 1);
        Check.same("towns: all are of one", x.other(2, 3, 0), 0);
        int[][] wrong = {{1, 0, 0}, {7, 0, 0}, {2, -1, 0}, {2, 4, 0}, {2, 0, 3}, {2, 0, -1}};
        for (int[] w : wrong) {
            Check.same("not as told", x.other(w[0], w[1], w[2]), -1);
        }
        Check.same("law stays", x.count(4), 3);
        Check.same("back stays", x.count(5), 1);
    }

    private static void nothing() {
        ThirdHands x = new ThirdHands();
        Check.same("most", x.most(), 0);
        Check.same("bars", x.bars(), 0);
        Check.same("best", x.best(0), 0);
        Check.same("best", x.best(1), 0);
        Check.same("best", x.best(2), 0);
        Check.same("bestOf", x.bestOf(0), -1);
        Check.same("rest", x.rest(), 1);
        Check.same("mend", x.mend(), -1);
        Check.same("live", x.live(), 0);
        Check.same("stop", x.stop(), 0);
        Check.same("other", x.other(6, 3, 2), 0);
    }
}
