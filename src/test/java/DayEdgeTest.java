import java.io.IOException;

/** The edges of days, rings, books and drawing, sentence by sentence: Terms 3, of Terms 4 the RING, and Terms 5. */
public final class DayEdgeTest {
    private static final String JUDGE = "Promise 18, Terms 3";
    private static final String WHY = "Promise 19, Terms 3";
    private static final String RING = "Promise 27, Terms 4";
    private static final String LASTS = "Promise 29, Terms 4";
    private static final String NOTE = "Promise 36, Terms 5";
    private static final String LIES = "Promise 37, Terms 5";

    private DayEdgeTest() {
    }

    public static void main(String[] args) throws IOException {
        hours();
        givers();
        uses();
        early();
        forbidden();
        unusable();
        rings();
        gains();
        dayUponDay();
        notes();
        truths();
        lies();
        drawn();
        newVillage();
        thrown();
        Edge.finish("edges of days", args[1], 1, 0);
    }

    /** The first act that is wrong and why; -1 and 0: none. */
    private static ThirdHands judged(String town, String plan, int act, int why) {
        ThirdHands x = Check.of(town);
        Check.same("the test's own plan " + plan, Check.plan(x, plan) >= 0, true);
        Check.same("judge of " + plan + " in " + town, x.judge(), act);
        Check.same("why of " + plan + " in " + town, x.judged(0), why);
        return x;
    }

    private static ThirdHands good(String town, String plan) {
        return judged(town, plan, -1, 0);
    }

    private static void unit(ThirdHands x, int u, int who, int nth, int may) {
        Check.same("who has " + u, x.holds(u, 0), who);
        Check.same("how many-eth has " + u, x.holds(u, 1), nth);
        Check.same("may use " + u, x.holds(u, 2), may);
    }

    private static final String TOWN = "who a;who b;who c;sort s 9;makes a s 2 0;gives a b 1 2;gives b c 2 0;wants c s 5;"
        + "wants c s 6;";

    private static void hours() {
        Edge.test(JUDGE, "It is done from HOUR 0 on; 'wait' lets HOURS go by", () -> {
            Check.same("no act", good(TOWN, "").judged(1), 0);
            Check.same("no wait", good(TOWN, "give 0 b;").judged(1), 0);
            Check.same("one", good(TOWN, "wait 1;").judged(1), 1);
            Check.same("47", good(TOWN, "wait 47;").judged(1), 47);
            Check.same("more waits", good(TOWN, "wait 9;wait 1;wait 20;").judged(1), 30);
        });
        Edge.test(JUDGE, "it is the other's when the HOURS of that giving are over", () -> {
            judged(TOWN, "give 0 b;wait 1;give 0 c;", 2, 3);
            good(TOWN, "give 0 b;wait 2;give 0 c;");
            // of 0 hours: at once
            good(TOWN, "give 0 b;wait 2;give 0 c;use 0;");
            good(TOWN.replace("a b 1 2", "a b 1 9"), "give 0 b;wait 8;");
            judged(TOWN.replace("a b 1 2", "a b 1 9").replace("s 9", "s 48"), "give 0 b;wait 8;give 0 c;", 2, 3);
            good(TOWN.replace("a b 1 2", "a b 1 9").replace("s 9", "s 48"), "give 0 b;wait 9;give 0 c;");
        });
        Edge.test(WHY, "8 wait: it would be HOUR 48 or later", () -> {
            Check.same("hour 47", good(TOWN, "wait 46;wait 1;").judged(1), 47);
            Check.same("hour 46", judged(TOWN, "wait 46;wait 2;", 1, 8).judged(1), 46);
            Check.same("hour 47", judged(TOWN, "wait 47;wait 1;", 1, 8).judged(1), 47);
            Check.same("hour 1", judged(TOWN, "wait 1;wait 47;", 1, 8).judged(1), 1);
        });
    }

    private static void givers() {
        String two = "who a;who b;who c;who d;sort s 9;makes c with b s 1 0;";
        Edge.test(JUDGE, "of two FIRSTS the lesser one who is told to give to that WHO", () -> {
            Check.same("the lesser", good(two + "gives b d 1 0;gives c d 2 0;", "give 0 d;").judged(3), 1);
            Check.same("the one who is told", good(two + "gives c d 2 0;", "give 0 d;").judged(3), 2);
            Check.same("one to the other", good(two + "gives b c 3 0;gives c b 4 0;", "give 0 c;").judged(3), 3);
            Check.same("the other to the one", good(two + "gives b c 3 0;gives c b 4 0;", "give 0 b;").judged(3), 4);
            // once it is given, who has it is one alone
            judged(two + "gives c b 1 0;gives c d 1 0;", "give 0 b;give 0 d;", 1, 4);
        });
        Edge.test(JUDGE, "Whoever has it: the latest to whom it was given, else its FIRSTS", () -> {
            ThirdHands x = good(two + "gives b d 1 0;gives d a 1 0;", "give 0 d;");
            unit(x, 0, 3, 2, 0);
            unit(good(two + "gives b d 1 0;", ""), 0, 2, 1, 0);
            // on its way it is the other's already
            x = good(TOWN, "give 0 b;wait 1;");
            unit(x, 0, 1, 2, 0);
        });
        Edge.test(WHY, "4 give: it is not told that who has it gives to that WHO", () -> {
            judged(TOWN, "give 0 c;", 0, 4);
            judged(TOWN, "give 0 a;", 0, 4);
            judged(TOWN, "give 0 b;wait 2;give 0 a;", 2, 4);
            judged(two + "gives a d 1 0;", "give 0 d;", 0, 4);
            good(TOWN, "give 0 b;");
        });
    }

    private static void uses() {
        Edge.test(JUDGE, "a WANT of whoever has it is met (that SORT, not met, 'by' not over; the first one), the UNIT is gone", () -> {
            String both = "give 0 b;give 1 b;wait 2;give 0 c;give 1 c;use 1;";
            Check.same("the first one", good(TOWN, both).judged(2), 1);
            Check.same("then the second", good(TOWN, both + "use 0;").judged(2), 3);
            unit(good(TOWN, both), 1, -1, 0, 0);
            unit(good(TOWN, both), 0, 2, 3, 1);
            // 'by' is over: the second one is met
            Check.same("by 2 at 2", good(TOWN.replace("s 5", "s 5 by 2"), both).judged(2), 1);
            Check.same("by 1 at 2", good(TOWN.replace("s 5", "s 5 by 1"), both).judged(2), 2);
            // a want of another sort, and one of another WHO, are passed by
            Check.same("that sort", good(TOWN.replace("wants c s 5", "sort t 9;wants c t 5"), both).judged(2), 2);
            Check.same("his", good(TOWN.replace("wants c s 5", "wants b s 5"), both).judged(2), 2);
        });
        Edge.test(WHY, "7 use: there is no such WANT", () -> {
            String go = "give 0 b;wait 2;give 0 c;use 0;";
            String one = TOWN.replace("wants c s 6;", "");
            good(one, go);
            judged(one.replace("s 5", "s 5 by 1"), go, 3, 7);
            good(one.replace("s 5", "s 5 by 2"), go);
            judged(one.replace("wants c s 5", "sort t 9;wants c t 5"), go, 3, 7);
            judged(one.replace("wants c s 5", "wants b s 5"), go, 3, 7);
            judged(one, "give 0 b;give 1 b;wait 2;give 0 c;give 1 c;use 0;use 1;", 6, 7);
            judged(one.replace("wants c s 5;", "wants b s 5;".repeat(8)), go, 3, 7);
            // nor one of an earlier VILLAGE
            ThirdHands x = Check.of(TOWN);
            Check.village(x, TOWN.replace("wants c s 5;wants c s 6;", ""));
            Check.plan(x, go);
            Check.same("judge", x.judge(), 3);
            Check.same("why", x.judged(0), 7);
        });
        Edge.test(WHY, "6 use: who has it is not its N-th (its FIRST the first, each giving one more)", () -> {
            judged(TOWN, "use 0;", 0, 6);
            judged(TOWN, "give 0 b;wait 2;use 0;", 2, 6);
            good(TOWN, "give 0 b;wait 2;give 0 c;use 0;");
            judged(TOWN + "law 2 first;", "give 0 b;wait 2;give 0 c;use 0;", 3, 6);
            judged(TOWN + "law 4 first;", "give 0 b;wait 2;give 0 c;use 0;", 3, 6);
            String back = "who a;who b;sort s 9;makes a s 1 0;gives a b 0 0;gives b a 0 0;wants b s 1;law ";
            String six = "give 0 b;give 0 a;give 0 b;give 0 a;give 0 b;";
            good(back + "6 any;", six + "use 0;");
            good("who a;who b;sort s 9;makes a s 1 0;gives a b 0 0;law 2 once;wants b s 1;", "give 0 b;use 0;");
            good(back + "4 any;", "give 0 b;give 0 a;give 0 b;use 0;");
            judged(back + "4 any;", six + "use 0;", 5, 6);
        });
    }

    private static final String LATE = TOWN.replace("makes a s 2 0", "makes a s 2 3").replace("sort s 9", "sort s 4");

    private static void early() {
        Edge.test(WHY, "1 the UNIT is not made yet", () -> {
            judged(LATE, "give 0 b;", 0, 1);
            judged(LATE, "use 0;", 0, 1);
            judged(LATE, "wait 2;give 0 b;", 1, 1);
            good(LATE, "wait 3;give 0 b;");
            judged(LATE, "wait 3;use 0;", 1, 6);
        });
        Edge.test(WHY, "2 it is gone, or SPOILT", () -> {
            good(LATE, "wait 6;give 0 b;");
            judged(LATE, "wait 7;give 0 b;", 1, 2);
            judged(LATE, "wait 7;use 0;", 1, 2);
            judged(LATE, "wait 3;give 0 b;wait 2;give 0 c;use 0;use 0;", 5, 2);
            judged(LATE, "wait 3;give 0 b;wait 2;give 0 c;use 0;give 0 b;", 5, 2);
            good(LATE, "wait 3;give 0 b;wait 2;give 0 c;wait 1;use 0;");
            judged(LATE, "wait 3;give 0 b;wait 2;give 0 c;wait 2;use 0;", 5, 2);
        });
        Edge.test(WHY, "3 it is still on its way", () -> {
            judged(LATE, "wait 3;give 0 b;give 0 c;", 2, 3);
            judged(LATE, "wait 3;give 0 b;wait 1;use 0;", 3, 3);
            judged(LATE, "wait 3;give 0 b;wait 2;use 0;", 3, 6);
        });
        Edge.test(WHY, "An ACT is WRONG, the least", () -> {
            // not made yet, no giving: 1 ahead of 4
            judged(LATE, "give 0 c;", 0, 1);
            // not made yet, not the third: 1 ahead of 6
            judged(LATE, "use 1;", 0, 1);
            // spoilt and on its way: 2 ahead of 3
            judged(LATE, "wait 6;give 0 b;wait 1;give 0 c;", 3, 2);
            judged(LATE, "wait 6;give 0 b;wait 1;use 0;", 3, 2);
            // spoilt, no giving: 2 ahead of 4
            judged(LATE, "wait 7;give 0 c;", 1, 2);
            // on its way, no giving: 3 ahead of 4
            judged(LATE, "wait 3;give 0 b;give 0 b;", 2, 3);
            // not told, and BACK forbids it: 4 ahead of 5
            judged(LATE, "wait 3;give 0 b;wait 2;give 0 b;", 3, 4);
            // not the third, no want: 6 ahead of 7
            judged(LATE, "wait 3;give 0 b;wait 2;use 0;", 3, 6);
        });
    }

    private static final String OWN = "who a of 1;who b of 2;who c of 3;who d of 1;sort s 48;makes a with d s 1 0;gives a b 0 0;"
        + "gives b a 0 0;gives b c 0 0;gives b d 0 0;gives c b 0 0;gives a d 0 0;";

    /** The act that BACK forbids by each law: any, first, once, towns; -1: none. */
    private static void byBacks(String plan, int... due) {
        for (int back = 0; back < 4; back++) {
            judged(OWN + "law 2 " + World.BACKS[back] + ";", plan, due[back], due[back] < 0 ? 0 : 5);
        }
    }

    private static void forbidden() {
        Edge.test(WHY, "5 give: BACK forbids it", () -> {
            byBacks("give 0 b;give 0 c;", -1, -1, -1, -1);
            byBacks("give 0 b;give 0 c;give 0 b;", -1, 2, 2, 2);
            // back to the one from whom it is; to the other FIRST, who is of the same TOWN
            byBacks("give 0 b;give 0 a;", -1, -1, 1, 1);
            byBacks("give 0 b;give 0 d;", -1, -1, 1, 1);
            byBacks("give 0 d;", -1, -1, 0, 0);
            byBacks("give 0 b;give 0 a;give 0 b;", -1, 2, 1, 1);
            // two of one TOWN, neither of them a FIRST
            String same = OWN.replace("who c of 3", "who c of 2");
            judged(same + "law 3 towns;", "give 0 b;give 0 c;", 1, 5);
            good(same + "law 3 once;", "give 0 b;give 0 c;");
        });
    }

    private static void unusable() {
        Edge.test("Promise 19, Terms 3", "2 it is gone, or SPOILT", () -> {
            // at its last hour it is not spoilt, an hour later it is
            Check.same("spoilt at 8", good(TOWN, "wait 8;").judged(4), 0);
            Check.same("spoilt at 9", good(TOWN, "wait 9;").judged(4), 3);
            Check.same("the one used is not", good(TOWN, "give 0 b;wait 2;give 0 c;use 0;wait 7;").judged(4), 2);
        });
        Edge.test(JUDGE, "It is done from HOUR 0 on", () -> {
            ThirdHands sixteen = Check.of("who a;who b;sort s 9;makes a s 9 0;makes b s 7 0;");
            Check.same("sixteen units", sixteen.judge(), -1);
            unit(sixteen, 15, 1, 1, 0);
            // nothing of the day ahead is left
            ThirdHands x = good(TOWN, "give 0 b;wait 2;give 0 c;use 0;give 1 b;");
            days(x, 2, 1, 4, 0);
            Check.plan(x, "wait 9;");
            Check.same("judge", x.judge(), -1);
            days(x, 9, 0, 0, 3);
            Check.plan(x, "give 1 b;wait 2;give 1 c;");
            Check.same("judge", x.judge(), -1);
            days(x, 2, 0, 3, 0);
            unit(x, 0, 0, 1, 0);
            unit(x, 1, 2, 3, 1);
            Check.plan(x, "give 1 c;");
            Check.same("judge", x.judge(), 0);
            days(x, 0, 0, 0, 0);
            unit(x, 1, 0, 1, 0);
            Check.same("why", x.judged(0), 4);
            Check.plan(x, "");
            Check.same("judge", x.judge(), -1);
            Check.same("why", x.judged(0), 0);
            // it was on its way: now it is with its FIRST
            Check.plan(x, "give 0 b;");
            x.judge();
            Check.plan(x, "give 0 c;");
            x.judge();
            Check.same("why", x.judged(0), 4);
        });
    }

    private static void days(ThirdHands x, int hour, int met, int pains, int spoilt) {
        Check.same("HOUR", x.judged(1), hour);
        Check.same("WANTS met", x.judged(2), met);
        Check.same("PAINS", x.judged(3), pains);
        Check.same("SPOILT", x.judged(4), spoilt);
    }

    private static final String ROUND = "who a;who b;who c;sort s 9;gives a b 1 0;gives b c 2 0;gives c a 3 0;gives b a 4 0;";

    private static void rings() {
        Edge.test(RING, "RING of some PEOPLE (2 to 8, unlike): each gives to the next one, the last one to the first", () -> {
            ThirdHands x = Check.of(ROUND);
            Check.same("of one", Check.ring(x, 0), -2);
            Check.same("of two", Check.ring(x, 0, 1), 0);
            Check.same("of three", Check.ring(x, 0, 1, 2), 0);
            Check.same("begun elsewhere", Check.ring(x, 2, 0, 1), 0);
            Check.same("the first does not give to the next", Check.ring(x, 0, 2), -1);
            Check.same("the last does not give to the first", Check.ring(x, 1, 2), -1);
            Check.same("the other way round", Check.ring(x, 2, 1, 0), -1);
            Check.same("not unlike", Check.ring(x, 0, 1, 0, 1), -2);
            StringBuilder eight = new StringBuilder();
            for (int k = 0; k < 8; k++) {
                eight.append("who p").append((char) ('a' + k)).append(";");
            }
            for (int k = 0; k < 8; k++) {
                eight.append("gives p").append((char) ('a' + k)).append(" p").append((char) ('a' + (k + 1) % 8)).append(" 1 0;");
            }
            x = Check.of(eight + "sort s 9;makes ph s 1 0;wants pb s 2;");
            Check.same("of eight", Check.ring(x, 0, 1, 2, 3, 4, 5, 6, 7), 1 << 7 | 1);
            Check.same("of nine", Check.ring(x, 0, 1, 2, 3, 4, 5, 6, 7, 0), -2);
        });
        Edge.test(RING, "Of each one who makes something (the first 'makes' in which he is told first) one UNIT goes on", () -> {
            // nobody makes: nobody has pains
            ThirdHands x = Check.of(ROUND + "wants c s 9;");
            Check.same("nobody", Check.ring(x, 0, 1, 2), 0);
            Check.same("nobody has", x.gain(2), 0);
            // told second: nothing of b's goes on; of a's one of three
            x = Check.of(ROUND + "sort t 9;makes a with b s 3 0;makes a t 1 0;wants c s 9;wants a t 50;wants c t 70;wants a s 90;");
            Check.same("a and b lose", Check.ring(x, 0, 1, 2), 3);
            Check.same("a", x.gain(0), -1);
            Check.same("b", x.gain(1), -2);
            Check.same("c", x.gain(2), 9);
            // one whose first line comes behind another's
            x = Check.of(ROUND + "makes b with a s 1 0;makes a s 1 0;wants c s 9;");
            Check.ring(x, 0, 1, 2);
            Check.same("c has a's", x.gain(2), 9 - 3);
            // one who is not in the ring makes nothing for it
            x = Check.of(ROUND + "makes c s 1 0;wants a s 9;wants b s 9;");
            Check.same("without c", Check.ring(x, 0, 1), 0);
            Check.same("a", x.gain(0), 0);
        });
        Edge.test(RING, "along the RING till the N-th hand, if BACK lets it all the way (else it does not go at all)", () -> {
            String town = ROUND + "makes a s 1 0;wants b s 50;wants a s 60;wants c s 70;";
            int[][] gains = {{-1, 50, 0}, {-1, -2, 70}, {-1 + 60, -2, -3}, {-2, -2 + 50, -3}, {-2, -4, -3 + 70}};
            for (int n = 2; n <= 6; n++) {
                ThirdHands x = Check.of(town + "law " + n + " any;");
                Check.ring(x, 0, 1, 2);
                for (int i = 0; i < 3; i++) {
                    Check.same("gain of " + i + " by law " + n, x.gain(i), gains[n - 2][i]);
                }
            }
            // a b c a b: b comes twice, so nobody has pains
            ThirdHands x = Check.of(town + "law 5 first;");
            Check.same("b twice", Check.ring(x, 0, 1, 2), 0);
            Check.same("a has no pains", x.gain(0), 0);
            x = Check.of(town + "law 4 once;");
            Check.same("a twice", Check.ring(x, 0, 1, 2), 0);
            Check.same("a has no pains", x.gain(0), 0);
            x = Check.of(town + "law 4 first;");
            Check.ring(x, 0, 1, 2);
            Check.same("a is its FIRST", x.gain(0), 59);
            x = Check.of(town + "law 3 once;");
            Check.ring(x, 0, 1, 2);
            Check.same("nobody twice", x.gain(2), 70);
            x = Check.of(town.replace("who b", "who b of 1").replace("who c", "who c of 2") + "law 3 towns;");
            Check.ring(x, 0, 1, 2);
            Check.same("of unlike TOWNS", x.gain(2), 70);
            x = Check.of(town + "law 2 towns;");
            Check.same("all of one TOWN", Check.ring(x, 0, 1, 2), 0);
            Check.same("b has nothing", x.gain(1), 0);
        });
    }

    private static void gains() {
        Edge.test("Promise 28, Terms 4", "WORTH of the first WANT he has of a SORT that comes to him so, for each UNIT that does", () -> {
            ThirdHands x = Check.of(ROUND + "sort t 9;makes a s 1 0;wants a s 80;wants c t 90;wants c s 7;wants c s 999;");
            Check.ring(x, 0, 1, 2);
            Check.same("the first of that SORT", x.gain(2), 7);
            x = Check.of(ROUND + "makes a s 1 0;wants b s 9;");
            Check.ring(x, 0, 1, 2);
            Check.same("no WANT", x.gain(2), 0);
            x = Check.of(ROUND + "makes a s 1 0;" + "wants b s 9;".repeat(8));
            Check.ring(x, 0, 1, 2);
            Check.same("none of eight WANTS", x.gain(2), 0);
            Check.village(x, ROUND + "makes a s 1 0;wants c s 50;wants c s 60;");
            Check.village(x, ROUND + "makes a s 1 0;");
            Check.ring(x, 0, 1, 2);
            Check.same("none of an earlier VILLAGE", x.gain(2), 0);
            // by law 4 of two people: a's to b, b's to a; each goes along both givings
            x = Check.of(ROUND + "makes a s 1 0;makes b s 1 0;wants a s 50;wants b s 60;law 4 any;");
            Check.ring(x, 0, 1);
            // a b a b: a 1 twice, b 4; b a b a: b 4 twice, a 1
            Check.same("a", x.gain(0), 50 - 3);
            Check.same("b", x.gain(1), 60 - 12);
        });
        Edge.test("Promise 28, Terms 4", "less PAINS of all givings that he does", () -> {
            ThirdHands x = Check.of(ROUND + "makes a s 1 0;makes b s 1 0;makes c s 1 0;");
            Check.same("all", Check.ring(x, 0, 1, 2), 7);
            Check.same("a", x.gain(0), -2);
            Check.same("b", x.gain(1), -4);
            Check.same("c", x.gain(2), -6);
        });
        Edge.test("Promise 27", "those of them whose GAIN is below 0, as bits by numbers", () -> {
            // a gives his own and c's: 2; b his own and a's: 4; c his own and b's: 6
            ThirdHands x = Check.of(ROUND + "makes a s 1 0;makes b s 1 0;makes c s 1 0;wants a s 2;wants b s 3;wants c s 5;");
            Check.same("0 is not below 0", Check.ring(x, 0, 1, 2), 6);
            Check.same("by numbers, not as told", Check.ring(x, 2, 0, 1), 6);
            Check.same("the second told", x.gain(1), 0);
        });
    }

    private static final String EACH = ROUND + "makes a s 1 0;makes b s 1 0;makes c s 1 0;";

    private static void dayUponDay() {
        Edge.test(LASTS, "those whose GAIN is below 0 leave, the others are a RING (as told, each to the next one left), and so on", () -> {
            // c leaves; a and b are left, who give to one another
            Check.same("c leaves", Check.lasts(Check.of(EACH + "wants a s 9;wants b s 9;"), 0, 1, 2), 3);
            // 0 stays: each has as much as his pains
            Check.same("nobody leaves at 0", Check.lasts(Check.of(EACH + "wants a s 2;wants b s 4;wants c s 6;"), 0, 1, 2), 7);
            // c leaves on the first day, on the second b has 4 less 8
            Check.same("b leaves then", Check.lasts(Check.of(EACH + "wants a s 9;wants b s 4;"), 0, 1, 2), -1);
        });
        Edge.test(LASTS, "it HOLDS, if nobody leaves", () -> {
            Check.same("nothing is made", Check.lasts(Check.of(ROUND), 0, 1, 2), 7);
            Check.same("two", Check.lasts(Check.of(ROUND), 0, 1), 3);
            Check.same("without the first", Check.lasts(Check.of(ROUND + "gives c b 0 0;"), 1, 2), 6);
            Check.same("without the first, from the other", Check.lasts(Check.of(ROUND + "gives c b 0 0;"), 2, 1), 6);
        });
        Edge.test(LASTS, "it does not, if one does not give to the next, or fewer than two are left", () -> {
            Check.same("on the first day", Check.lasts(Check.of(ROUND), 2, 1, 0), -1);
            Check.same("b leaves, a does not give to c", Check.lasts(Check.of(EACH + "wants a s 9;wants c s 9;"), 0, 1, 2), -1);
            Check.same("nobody is left", Check.lasts(Check.of(EACH), 0, 1, 2), -1);
            Check.same("one is left", Check.lasts(Check.of(ROUND + "makes b s 1 0;wants a s 9;"), 0, 1, 2), -1);
            // the same with two, where the one left would give to himself
            Check.same("one of two is left", Check.lasts(Check.of(ROUND + "makes b s 1 0;wants b s 9;law 3 any;"), 0, 1), -1);
        });
    }

    private static final String BOOK = "who a;who b;who c;who d;sort s 9;makes a s 1 5;makes d with b s 1 0;makes c s 7 0;";

    private static void found(ThirdHands x, int u, int lies, int found, int holder) {
        Check.same("LIES", x.lies(u, 0), lies);
        Check.same("FOUND", x.lies(u, 1), found);
        Check.same("HOLDER", x.lies(u, 2), holder);
    }

    /** Notes of unit 0, each from, to, hour. */
    private static ThirdHands noted(int u, int[]... notes) {
        ThirdHands x = Check.of(BOOK);
        for (int k = 0; k < notes.length; k++) {
            Check.same("note " + k, x.note(u, notes[k][0], notes[k][1], notes[k][2]), k);
        }
        return x;
    }

    private static void notes() {
        Edge.test(NOTE, "notes (40): UNIT, from whom, to whom (unlike), HOUR (0 to 47)", () -> {
            ThirdHands x = Check.of(BOOK);
            Check.same("to himself", x.note(0, 1, 1, 5), -1);
            Check.same("hour -1", x.note(0, 0, 1, -1), -1);
            Check.same("hour 48", x.note(0, 0, 1, 48), -1);
            Check.same("none", x.count(7), 0);
            Check.same("hour 0", x.note(0, 0, 1, 0), 0);
            Check.same("hour 47", x.note(0, 0, 1, 47), 1);
            for (int k = 2; k < 40; k++) {
                Check.same("note " + k, x.note(1 + k % 8, 0, 1, 5), k);
            }
            Check.same("a 41st", x.note(0, 0, 1, 5), -1);
            Check.same("forty", x.count(7), 40);
        });
    }

    private static void truths() {
        Edge.test(LIES, "if the first one is from a FIRST of it", () -> {
            found(noted(0, new int[] {0, 1, 5}), 0, 0, 0, 1);
            found(noted(0, new int[] {1, 0, 5}), 0, 1, 1, 0);
            found(noted(1, new int[] {3, 0, 5}), 1, 0, 0, 0);
            found(noted(1, new int[] {1, 0, 5}), 1, 0, 0, 0);
            found(noted(1, new int[] {2, 0, 5}), 1, 1, 1, 3);
        });
        Edge.test(LIES, "each later one from whom the one ahead is to", () -> {
            found(noted(0, new int[] {0, 1, 5}, new int[] {1, 2, 6}, new int[] {2, 0, 7}), 0, 0, 0, 0);
            found(noted(0, new int[] {0, 1, 5}, new int[] {2, 3, 6}), 0, 1, 2, 1);
            // from a FIRST is not enough behind the first one
            found(noted(0, new int[] {0, 1, 5}, new int[] {0, 2, 6}, new int[] {2, 3, 7}), 0, 1, 1, 3);
        });
        Edge.test(LIES, "and no HOUR is ahead of the UNIT's", () -> {
            found(noted(0, new int[] {0, 1, 5}), 0, 0, 0, 1);
            found(noted(0, new int[] {0, 1, 4}), 0, 1, 1, 0);
            found(noted(0, new int[] {0, 1, 0}, new int[] {1, 2, 5}), 0, 2, 3, 0);
            found(noted(1, new int[] {3, 0, 0}), 1, 0, 0, 0);
        });
        Edge.test(LIES, "Notes of one UNIT by HOURS (of like ones as told)", () -> {
            found(noted(0, new int[] {1, 2, 9}, new int[] {0, 1, 8}), 0, 0, 0, 2);
            found(noted(0, new int[] {0, 1, 8}, new int[] {1, 2, 8}), 0, 0, 0, 2);
            found(noted(0, new int[] {1, 2, 8}, new int[] {0, 1, 8}), 0, 1, 1, 1);
            // notes of other units are no matter
            ThirdHands x = noted(0, new int[] {0, 1, 8});
            x.note(1, 1, 2, 8);
            x.note(0, 1, 2, 8);
            found(x, 0, 0, 0, 2);
            found(x, 1, 0, 0, 2);
            // told the other way round, behind notes of another unit
            x = noted(1, new int[] {3, 0, 5}, new int[] {0, 1, 6}, new int[] {1, 2, 7});
            x.note(0, 3, 2, 9);
            x.note(0, 1, 3, 8);
            x.note(0, 2, 1, 7);
            x.note(0, 0, 2, 6);
            found(x, 0, 0, 0, 2);
            x.note(0, 2, 0, 47);
            found(x, 0, 0, 0, 0);
            found(x, 1, 0, 0, 2);
        });
    }

    private static void lies() {
        Edge.test(LIES, "the fewest notes of a UNIT without which the others are TRUE together", () -> {
            found(noted(0), 0, 0, 0, 0);
            int[][] eight = new int[8][];
            for (int k = 0; k < 8; k++) {
                eight[k] = new int[] {1, 2, 5 + k};
            }
            found(noted(0, eight), 0, 8, 255, 0);
            for (int k = 0; k < 8; k++) {
                eight[k] = new int[] {0, 1, 5 + k};
            }
            found(noted(0, eight), 0, 7, 127, 1);
        });
        Edge.test(LIES, "that set (of the UNIT's notes as told; of like ones the least as bits)", () -> {
            // either one is a lie: the one told first is the lesser bit
            found(noted(0, new int[] {0, 1, 5}, new int[] {0, 2, 6}), 0, 1, 1, 2);
            found(noted(0, new int[] {0, 1, 6}, new int[] {0, 2, 5}), 0, 1, 1, 2);
            // bits by what was told of the unit, not by the book and not by hours
            ThirdHands x = noted(1, new int[] {3, 0, 5}, new int[] {0, 1, 6});
            x.note(0, 3, 2, 9);
            x.note(0, 0, 1, 8);
            x.note(0, 2, 3, 7);
            found(x, 0, 2, 5, 1);
        });
        Edge.test(LIES, "HOLDER: to whom the last of the others is (none: its first FIRST)", () -> {
            found(noted(1), 1, 0, 0, 3);
            found(noted(1, new int[] {2, 0, 5}), 1, 1, 1, 3);
            found(noted(0, new int[] {0, 1, 9}, new int[] {0, 3, 8}, new int[] {1, 2, 10}), 0, 1, 2, 2);
        });
    }

    private static void drawn() {
        Edge.test("Promise 16, Terms 5", "x becomes x * 1103515245 + 12345 (an int, wrapping), the draw is (x >>> 8) % n", () -> {
            for (int seed : new int[] {0, 1, -1, 7, 1 << 30, Integer.MAX_VALUE, Integer.MIN_VALUE}) {
                ThirdHands x = Check.of("who a;who b;who c;sort s 5;makes a s 5 0;");
                Check.same("drawn", x.drawn(50, seed), 50);
                long y = seed;
                int[] of = {4, 5, 3};
                for (int i = 0; i < 50; i++) {
                    int[] draw = new int[3];
                    for (int k = 0; k < 3; k++) {
                        y = y * 1103515245L + 12345L & 0xffffffffL;
                        draw[k] = (int) ((y >> 8) % of[k]);
                    }
                    Check.same("what", x.act(i, 0), draw[0] == 0 ? 1 : draw[0] == 1 ? 2 : 0);
                    Check.same("unit", x.act(i, 1), draw[0] == 1 ? 1 : draw[1]);
                    Check.same("whom", x.act(i, 2), draw[0] > 1 ? draw[2] : -1);
                }
            }
        });
        Edge.test("Promise 16, Terms 5", "draws of 4, of UNITS, of PEOPLE: 0: 'use', 1: 'wait' 1, else 'give'", () -> {
            // 12345 >>> 8 is 48, so the first draw of 4 is 0
            ThirdHands x = Check.of("who a;sort s 5;makes a s 1 0;");
            x.drawn(1, 0);
            Check.same("what", x.act(0, 0), 1);
            Check.same("unit", x.act(0, 1), 0);
            Check.same("whom", x.act(0, 2), -1);
            // all of the kinds come, and nothing else
            x.drawn(50, 3);
            int kinds = 0;
            for (int i = 0; i < 50; i++) {
                kinds |= 1 << x.act(i, 0);
            }
            Check.same("kinds", kinds, 7);
        });
    }

    private static void newVillage() {
        Edge.test("Promise 4, Terms 5", "A new VILLAGE has no PLAN and an empty BOOK", () -> {
            ThirdHands x = Check.of(BOOK);
            Check.plan(x, "wait 1;wait 2;");
            x.note(0, 0, 1, 5);
            Check.village(x, BOOK);
            Check.same("acts", x.count(6), 0);
            Check.same("notes", x.count(7), 0);
            Check.refuses("act", () -> x.act(0, 0));
            found(x, 0, 0, 0, 0);
            Check.same("the first note", x.note(0, 0, 1, 5), 0);
        });
    }

    private static long state(ThirdHands x) {
        long state = 17;
        for (int k = 0; k < 9; k++) {
            state = state * 31 + x.count(k);
        }
        for (int k = 0; k < 5; k++) {
            state = state * 31 + x.judged(k) + 7L * x.hand(k) + 11L * x.restOf(k) + 13L * x.holds(k, 0);
        }
        return (state * 31 + x.middleBy()) * 31 + x.starves() + 101L * x.fault() + 103L * x.lies(0, 1) + 107L * x.best(0);
    }

    private static void thrown() {
        Edge.test("Promise 6, Terms 5", "A call that throws changes nothing", () -> {
            ThirdHands x = Check.of(TOWN);
            Check.plan(x, "give 0 b;wait 3;");
            x.judge();
            x.way(0, 0, 0);
            x.rest();
            x.middle(1);
            x.quarrel(0, 1);
            x.note(0, 0, 1, 5);
            Check.ring(x, 0, 1);
            Check.feed(x, "12345");
            long state = state(x);
            Check.refuses("unit", () -> x.unit(2, 0));
            Check.refuses("unit", () -> x.unit(0, 5));
            Check.refuses("want", () -> x.want(2, 0));
            Check.refuses("want", () -> x.want(0, 4));
            Check.refuses("act", () -> x.act(2, 0));
            Check.refuses("act", () -> x.act(0, 3));
            Check.refuses("gain", () -> x.gain(0));
            Check.same("the state", state(x), state);
        });
    }
}
