/** Promises 18 to 20 and 27 to 29: days told act by act, and rings. */
public final class DayTest {
    private DayTest() {
    }

    public static void main(String[] args) {
        ahead();
        goodDay();
        made();
        gone();
        onTheWay();
        toWhom();
        barred();
        manyHands();
        used();
        wanted();
        waited();
        kept();
        rings();
        ringOrder();
        ringBacks();
        gains();
        dayUponDay();
        Check.finish("days and rings");
    }

    private static final String PEOPLE = "who a of 1;who b of 2;who c of 3;who d of 1;";
    private static final String GIVES = "gives a b 1 2;gives b c 2 0;gives b a 3 1;gives c b 4 1;gives d c 5 3;"
        + "gives d b 6 0;gives c a 7 0;";
    private static final String TOWN = PEOPLE + "sort s 9;sort t 48;makes a s 2 1;makes d with a t 1 0;"
        + "wants c s 5 by 6;wants c s 6;wants a t 7;" + GIVES;

    private static ThirdHands judged(String town, String plan, int act, int why) {
        ThirdHands x = Check.of(town);
        if (Check.plan(x, plan) < 0) {
            throw new IllegalStateException("a test's own plan is faulty: " + plan);
        }
        Check.same("judge of " + plan, x.judge(), act);
        Check.same("why of " + plan, x.judged(0), why);
        return x;
    }

    private static void results(ThirdHands x, int hour, int met, int pains, int spoilt) {
        Check.same("hour", x.judged(1), hour);
        Check.same("met", x.judged(2), met);
        Check.same("pains", x.judged(3), pains);
        Check.same("spoilt", x.judged(4), spoilt);
    }

    private static void unit(ThirdHands x, int u, int who, int nth, int may) {
        Check.same("who has " + u, x.holds(u, 0), who);
        Check.same("how many-eth has " + u, x.holds(u, 1), nth);
        Check.same("may use " + u, x.holds(u, 2), may);
    }

    private static void ahead() {
        ThirdHands x = Check.of(TOWN);
        for (int k = 0; k < 5; k++) {
            Check.same("judged ahead of any", x.judged(k), -1);
        }
        Check.same("holds ahead of any", x.holds(0, 0), -1);
        Check.same("judge without a plan", x.judge(), -1);
        results(x, 0, 0, 0, 0);
        unit(x, 0, 0, 1, 0);
        unit(x, 2, 3, 1, 0);
        Check.same("no unit", x.holds(3, 0), -1);
        Check.same("no unit", x.holds(-1, 0), -1);
        Check.same("another what", x.holds(0, 3), -1);
        Check.same("another what", x.holds(0, -1), -1);
        Check.same("another what", x.judged(5), -1);
        Check.same("another what", x.judged(-1), -1);
    }

    private static void goodDay() {
        ThirdHands x = judged(TOWN, "wait 1;give 0 b;give 2 b;wait 2;give 0 c;use 0;give 1 b;give 2 a;wait 1;use 2;", -1, 0);
        results(x, 4, 5, 1 + 1 + 2 + 1 + 3, 0);
        unit(x, 0, -1, 0, 0);
        unit(x, 1, 1, 2, 0);
        unit(x, 2, -1, 0, 0);
        x = judged(TOWN, "wait 1;give 0 b;wait 2;give 0 c;", -1, 0);
        unit(x, 0, 2, 3, 1);
        // the lesser of the two firsts gives, where both are told to: a to b, not d to b
        Check.same("pains", judged(TOWN, "give 2 b;", -1, 0).judged(3), 1);
        Check.same("pains of the one told", judged(TOWN, "give 2 c;", -1, 0).judged(3), 5);
    }

    private static void made() {
        judged(TOWN, "give 0 b;", 0, 1);
        judged(TOWN, "use 0;", 0, 1);
        judged(TOWN, "give 0 d;", 0, 1);
        judged(TOWN, "wait 1;give 0 b;", -1, 0);
    }

    private static void gone() {
        judged(TOWN, "wait 1;give 0 b;wait 2;give 0 c;use 0;use 0;", 5, 2);
        judged(TOWN, "wait 1;give 0 b;wait 2;give 0 c;use 0;give 0 b;", 5, 2);
        judged(TOWN, "wait 9;give 0 b;", -1, 0);
        ThirdHands x = judged(TOWN, "wait 10;give 0 b;", 1, 2);
        results(x, 10, 0, 0, 3);
        unit(x, 0, 0, 1, 0);
        // spoilt where it is, and on its way
        x = judged(TOWN, "wait 9;give 0 b;wait 1;use 0;", 3, 2);
        results(x, 10, 0, 1, 3);
        x = judged(TOWN, "wait 6;give 0 b;wait 2;give 0 c;use 1;", 4, 6);
        unit(x, 0, 2, 3, 1);
        x = judged(TOWN, "wait 6;give 0 b;wait 2;give 0 c;wait 2;", -1, 0);
        unit(x, 0, 2, 3, 0);
        Check.same("both spoilt", x.judged(4), 3);
        x = judged(TOWN, "wait 6;give 0 b;wait 2;give 0 c;use 0;wait 2;", -1, 0);
        Check.same("the used one is not spoilt unused", x.judged(4), 2);
    }

    private static void onTheWay() {
        judged(TOWN, "wait 1;give 0 b;wait 1;give 0 c;", 3, 3);
        judged(TOWN, "wait 1;give 0 b;wait 1;use 0;", 3, 3);
        ThirdHands x = judged(TOWN, "wait 1;give 0 b;wait 1;give 0 d;", 3, 3);
        unit(x, 0, 1, 2, 0);
        judged(TOWN, "wait 1;give 0 b;wait 2;give 0 c;", -1, 0);
        // the third hand may not use it, till it is there
        x = judged(TOWN, "give 2 b;wait 2;give 2 a;", -1, 0);
        unit(x, 2, 0, 3, 0);
        x = judged(TOWN, "give 2 b;wait 2;give 2 a;wait 1;", -1, 0);
        unit(x, 2, 0, 3, 1);
    }

    private static void toWhom() {
        judged(TOWN, "wait 1;give 0 c;", 1, 4);
        judged(TOWN, "wait 1;give 0 a;", 1, 4);
        judged(TOWN, "give 2 d;", 0, 4);
        judged(TOWN, "wait 1;give 0 b;wait 2;give 0 d;", 3, 4);
    }

    private static final String BACK_TOWN = PEOPLE + "sort s 48;makes d with a s 1 0;gives a b 0 0;gives b a 0 0;"
        + "gives b d 0 0;gives a d 0 0;gives d a 0 0;gives b c 0 0;gives c b 0 0;gives d b 0 0;";

    private static void barred() {
        String[] plans = {"give 0 b;give 0 c;give 0 b;", "give 0 b;give 0 a;give 0 b;", "give 0 b;give 0 a;give 0 d;",
            "give 0 d;", "give 0 b;give 0 d;", "give 0 b;give 0 c;"};
        // the act that BACK forbids, by plans: any, first, once, towns
        int[][] due = {{-1, -1, -1, -1, -1, -1}, {2, 2, -1, -1, -1, -1}, {2, 1, 1, 0, 1, -1}, {2, 1, 1, 0, 1, -1}};
        for (int back = 0; back < 4; back++) {
            for (int k = 0; k < plans.length; k++) {
                judged(BACK_TOWN + "law 3 " + World.BACKS[back] + ";", plans[k], due[back][k], due[back][k] < 0 ? 0 : 5);
            }
        }
        // two of one town, neither of them a first
        judged(PEOPLE + "who e of 3;sort s 48;makes a s 1 0;gives a c 0 0;gives c e 0 0;law 4 towns;",
            "give 0 c;give 0 e;", 1, 5);
    }

    private static void manyHands() {
        StringBuilder there = new StringBuilder();
        for (int k = 0; k < 25; k++) {
            there.append("give 0 b;give 0 a;");
        }
        ThirdHands x = judged("who a;who b;sort s 9;makes a s 1 0;gives a b 1 0;gives b a 1 0;wants a s 5;law 3 any;",
            there.toString(), -1, 0);
        unit(x, 0, 0, 51, 0);
        Check.same("pains", x.judged(3), 50);
    }

    private static void used() {
        judged(TOWN, "use 2;", 0, 6);
        judged(TOWN, "give 2 b;wait 2;use 2;", 2, 6);
        judged(TOWN, "give 2 b;wait 2;give 2 c;give 2 a;use 2;", 4, 6);
        // the law tells the hand
        judged("who a;who b;sort s 9;makes a s 1 0;gives a b 1 0;wants b s 5;law 2 any;", "give 0 b;use 0;", -1, 0);
        judged("who a;who b;sort s 9;makes a s 1 0;gives a b 1 0;wants b s 5;law 3 any;", "give 0 b;use 0;", 1, 6);
    }

    private static void wanted() {
        // c's first want is over at 7, the second goes on; then there is none
        ThirdHands x = judged(TOWN, "wait 1;give 0 b;give 1 b;wait 5;give 0 c;give 1 c;use 0;use 1;", -1, 0);
        Check.same("both wants of c", x.judged(2), 3);
        x = judged(TOWN, "wait 1;give 0 b;give 1 b;wait 6;give 0 c;give 1 c;use 0;use 1;", 7, 7);
        Check.same("the second want of c", x.judged(2), 2);
        unit(x, 1, 2, 3, 0);
        // by is the last hour, not the first too late
        x = judged(TOWN, "wait 4;give 0 b;wait 2;give 0 c;use 0;", -1, 0);
        Check.same("at by", x.judged(2), 1);
        // a want of another sort is none
        judged(TOWN + "gives b d 0 0;wants d s 1;", "give 2 c;wait 3;give 2 b;wait 1;use 2;", 4, 7);
        judged(TOWN, "give 2 c;wait 3;give 2 b;", -1, 0);
    }

    private static void waited() {
        judged(TOWN, "wait 47;", -1, 0);
        ThirdHands x = judged(TOWN, "wait 47;wait 1;", 1, 8);
        results(x, 47, 0, 0, 3);
        judged(TOWN, "wait 1;wait 47;use 0;", 1, 8);
    }

    private static void kept() {
        ThirdHands x = judged(TOWN, "wait 1;give 0 b;wait 2;give 0 c;", -1, 0);
        Check.plan(x, "wait 47;");
        Check.village(x, "who z;");
        results(x, 3, 0, 3, 0);
        unit(x, 0, 2, 3, 1);
        unit(x, 2, 3, 1, 0);
        Check.same("judge anew", x.judge(), -1);
        Check.same("no unit any more", x.holds(0, 0), -1);
        Check.same("hour", x.judged(1), 0);
    }

    private static final String ROUND = "who a;who b;who c;who d;sort s 9;sort t 9;gives a b 1 0;gives b c 2 0;"
        + "gives c a 3 0;gives b a 4 0;gives c d 5 0;gives d a 6 0;";

    private static void rings() {
        ThirdHands x = Check.of(ROUND + "makes a s 1 0;wants c s 9;");
        // a to c: a does 1, b does 2, c has 9
        Check.refuses("gain ahead of any", () -> x.gain(0));
        Check.same("ring", Check.ring(x, 0, 1, 2), 3);
        Check.same("tape", x.count(8), 0);
        Check.same("gain", x.gain(0), -1);
        Check.same("gain", x.gain(1), -2);
        Check.same("gain", x.gain(2), 9);
        Check.refuses("gain", () -> x.gain(3));
        Check.refuses("gain", () -> x.gain(-1));
        Check.same("one does not give", Check.ring(x, 0, 2, 1), -1);
        Check.same("the last does not give to the first", Check.ring(x, 1, 2, 3), -1);
        Check.same("gain stays", x.gain(2), 9);
        int[][] wrong = {{}, {0}, {0, 0}, {0, 1, 0}, {0, 4}, {0, 255}, {0, 1, 2, 3, 4}, {0, 1, 2, 3, 0, 1, 2, 3, 0}};
        for (int[] people : wrong) {
            Check.same("not as told", Check.ring(x, people), -2);
            Check.same("tape", x.count(8), 0);
            Check.same("not as told", Check.lasts(x, people), -2);
            Check.same("tape", x.count(8), 0);
        }
        Check.same("gain stays", x.gain(2), 9);
        Check.same("one not of the village", Check.ring(new ThirdHands(), 0, 1), -2);
    }

    private static void ringOrder() {
        ThirdHands x = Check.of(ROUND + "makes a s 1 0;wants c s 9;");
        Check.same("ring from c", Check.ring(x, 2, 0, 1), 3);
        Check.same("gain of c", x.gain(0), 9);
        Check.same("gain of a", x.gain(1), -1);
        Check.same("gain of b", x.gain(2), -2);
        // of four, the third from a is c too
        Check.same("ring of four", Check.ring(x, 0, 1, 2, 3), 3);
        Check.same("gain of d", x.gain(3), 0);
        // the ring of two goes back to a, who wants none
        Check.same("ring of two", Check.ring(x, 0, 1), 3);
        Check.same("gain of b", x.gain(1), -4);
    }

    private static void ringBacks() {
        String town = ROUND + "makes a s 1 0;wants a s 9;";
        // by law 3 and two people: a b a
        int[] due = {8, 8, 0, 0};
        for (int back = 0; back < 4; back++) {
            ThirdHands x = Check.of(town + "law 3 " + World.BACKS[back] + ";");
            Check.same("two, " + back, Check.ring(x, 0, 1), back < 2 ? 2 : 0);
            Check.same("gain, " + back, x.gain(0), due[back]);
        }
        // by law 4: a b a b: b comes twice
        due = new int[] {-2, 0, 0, 0};
        for (int back = 0; back < 4; back++) {
            ThirdHands x = Check.of(town + "law 4 " + World.BACKS[back] + ";");
            Check.ring(x, 0, 1);
            Check.same("gain, " + back, x.gain(0), due[back]);
        }
        // b is a first too: he may come back; once forbids him as a later hand
        ThirdHands x = Check.of(ROUND + "makes a with b s 1 0;law 4 first;");
        Check.ring(x, 0, 1);
        Check.same("gain", x.gain(0), -2);
        x = Check.of(ROUND + "makes a with b s 1 0;law 3 once;");
        Check.same("once", Check.ring(x, 0, 1, 2), 0);
        x = Check.of(ROUND + "makes a with d s 1 0;law 3 once;");
        Check.same("once, d not on the way", Check.ring(x, 0, 1, 2), 3);
    }

    private static void gains() {
        // of a's makes the first, of b's none: he is told second there; c's comes to b, d is not in the ring
        ThirdHands x = Check.of(ROUND + "makes d s 1 0;makes a with b s 3 0;makes a t 1 0;makes c t 1 0;"
            + "wants c t 50;wants c s 9;wants c s 70;wants b t 4;");
        // a: gives his own 1, and c's on 1; b: gives a's on 2, has 4; c: gives his own 3, has 9
        Check.same("ring", Check.ring(x, 0, 1, 2), 1);
        Check.same("gain of a", x.gain(0), -2);
        Check.same("gain of b", x.gain(1), 2);
        Check.same("gain of c", x.gain(2), 6);
        // a gain of 0 is not below 0
        x = Check.of(ROUND + "makes a s 1 0;makes b s 1 0;makes c s 1 0;wants a s 4;wants b s 3;wants c s 5;");
        // each gives his own and the one of him ahead: a 1 + 1, b 2 + 2, c 3 + 3
        Check.same("ring", Check.ring(x, 0, 1, 2), 6);
        Check.same("gain of a", x.gain(0), 2);
        Check.same("gain of b", x.gain(1), -1);
        Check.same("gain of c", x.gain(2), -1);
    }

    private static void dayUponDay() {
        String makes = "makes a s 1 0;makes b s 1 0;makes c s 1 0;";
        ThirdHands x = Check.of(ROUND + makes + "wants a s 9;wants b s 9;wants c s 9;");
        Check.same("holds", Check.lasts(x, 0, 1, 2), 7);
        // d gives his own and c's on for 6 each and gains 3; the others hold without him
        x = Check.of(ROUND + makes + "makes d s 1 0;wants a s 99;wants b s 99;wants c s 99;wants d s 3;");
        Check.same("d leaves", Check.lasts(x, 0, 1, 2, 3), 7);
        Check.same("ring of four", Check.ring(x, 0, 1, 2, 3), 8);
        Check.same("gain", x.gain(3), -9);
        Check.lasts(x, 0, 1, 2);
        Check.same("gain is of ring, not of lasts", x.gain(3), -9);
        Check.same("one does not give", Check.lasts(x, 0, 2, 1), -1);
        // c leaves, then a and b are left, who give to one another: a b a
        x = Check.of(ROUND + makes + "wants a s 9;wants b s 9;");
        Check.same("two are left", Check.lasts(x, 0, 1, 2), 3);
        // the first day holds with nothing made
        Check.same("nothing is made", Check.lasts(Check.of(ROUND), 0, 1, 2), 7);
        // all leave
        x = Check.of(ROUND + makes);
        Check.same("all leave", Check.lasts(x, 0, 1, 2), -1);
        // b leaves, and a does not give to c
        x = Check.of(ROUND + makes + "wants a s 9;wants c s 9;");
        Check.same("the ring breaks", Check.lasts(x, 0, 1, 2), -1);
        // one alone is left
        x = Check.of(ROUND + "makes b s 1 0;wants a s 9;");
        Check.same("b and c leave", Check.ring(x, 0, 1, 2), 6);
        Check.same("one is left", Check.lasts(x, 0, 1, 2), -1);
    }
}
