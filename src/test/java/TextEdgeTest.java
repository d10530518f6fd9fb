import java.io.IOException;

/** The edges of all texts, sentence by sentence: Terms 1, and of Terms 3 how a PLAN is told (promises 4, 5 and 15). */
public final class TextEdgeTest {
    private static final String TWO = "who a;who b;sort s 5;";
    private static final String FOUR = "Promise 4, Terms 1";
    private static final String PLAN = "Promise 15, Terms 3";

    private TextEdgeTest() {
    }

    public static void main(String[] args) throws IOException {
        tokens();
        lengths();
        people();
        sortsAndUnits();
        wantsAndGivings();
        law();
        names();
        twice();
        limits();
        order();
        ends();
        planLengths();
        planFaults();
        Edge.finish("edges of texts", args[1], 1, 0);
    }

    private static void good(String text, int lines) {
        Texts.good(text, lines);
    }

    private static void marked(String text, int kind) {
        Texts.marked(text, kind);
    }

    private static String blanks(int n) {
        return Texts.blanks(n);
    }

    private static void tokens() {
        Edge.test(FOUR, "with blanks (32, 10) between them or not", () -> {
            good("who a of 1 asks 2;sort s 3;", 2);
            good("\n who\n\na \nof\n1 asks\n 2 \n;\n sort\ns 3 ; \n", 2);
            good("who a;sort s 9;makes a s 1 0;wants a s 5 by 6;law 3 any;", 5);
            marked("|whoa;", 1);
            marked("who aof |2;", 1);
            for (int c : new int[] {0, 9, 11, 12, 13, 31, 33, 42, 127, 128, 160, 255}) {
                Texts.faulty("who" + (char) c + "a;", 3, 1);
                Texts.faulty((char) c + "who a;", 0, 1);
            }
        });
        Edge.test(FOUR, "WORDS: small letters, 1 to 6", () -> {
            good("who a;who z;who abcdef;who uvwxyz;", 4);
            marked("who |abcdefg;", 1);
            marked(TWO + "gives a |abcdefgh 1 1;", 1);
            for (String one : new String[] {"@", "A", "Z", "[", "`", "{"}) {
                marked("who |" + one + ";", 1);
                marked("who a|" + one + ";", 1);
            }
        });
        Edge.test(FOUR, "NUMBERS: 1 to 3 digits", () -> {
            good("who a asks 0;who b asks 09;who c asks 099;", 3);
            good(TWO + "wants a s 123;wants a s 456;wants a s 789;wants a s 000;", 7);
            marked("who a asks |0000;", 1);
            marked("who a asks |0099;", 1);
            marked("who a asks |12345678901;", 1);
            marked("who a asks |/;", 1);
            marked("who a asks |:;", 1);
            marked("who a asks |-1;", 1);
            marked("who a asks |+1;", 1);
        });
        Edge.test(FOUR, "A WORD, NUMBER goes on as long as small letters and digits do", () -> {
            marked("who |a1;", 1);
            marked("who |abcde1;", 1);
            marked("who a of |1a;", 1);
            marked("who a of |1asks 5;", 1);
            marked("law |3any;", 1);
            marked("law 3 |any3;", 1);
            good("law 3 any;", 1);
        });
        Edge.test(FOUR, "what is not as told is no TOKEN", () -> {
            for (String one : new String[] {".", ",", ":", "?", "-", "(", "\"", "#", "_"}) {
                marked("|" + one, 1);
                marked("who a|" + one + ";", 1);
                marked("who a;|" + one, 1);
            }
        });
    }

    private static void lengths() {
        Edge.test(FOUR, "A VILLAGE is a text of at most 1000 bytes: { LINE ; }", () -> {
            good("", 0);
            good(blanks(1000), 0);
            good("who a;" + blanks(994), 1);
            good(blanks(994) + "who a;", 1);
            Texts.faulty(blanks(1001), 1000, 1);
            Texts.faulty("who a;" + blanks(995), 1000, 1);
            Texts.faulty(blanks(995) + "who a;", 1000, 1);
        });
    }

    /** If one gives to the other by a law of towns: 1, of one TOWN: 0. */
    private static int mostOfTowns(String a, String b) {
        return Check.of("who a" + a + ";who b" + b + ";sort s 9;makes a s 1 0;wants b s 9;gives a b 0 0;law 2 towns;").most();
    }

    private static int costByMiddle(String asks) {
        return Check.of("who a;who b" + asks + ";who c;sort s 9;makes a s 1 0;wants c s 9;gives a b 1 0;gives b c 1 0;")
            .way(0, 0, 0);
    }

    private static void people() {
        Edge.test(FOUR, "'who' NAME [ 'of' TOWN ] [ 'asks' N ] (0 to 9; 0 to 99; 0 without)", () -> {
            good("who a of 0 asks 0;who b of 9 asks 99;who c of 9;who d asks 99;who e;", 5);
            marked("who a of |10;", 2);
            marked("who a of |999;", 2);
            marked("who a asks |100;", 2);
            marked("who a of 9 asks |100;", 2);
            marked("who a asks 5 |of 2;", 1);
            marked("who a of 2 |of 2;", 1);
            marked("who a asks 2 |asks 2;", 1);
            Check.same("both without a town", mostOfTowns("", ""), 0);
            Check.same("town 0 and without", mostOfTowns(" of 0", ""), 0);
            Check.same("towns 0 and 1", mostOfTowns("", " of 1"), 1);
            Check.same("towns 9 and 8", mostOfTowns(" of 9", " of 8"), 1);
            Check.same("towns 9 and 9", mostOfTowns(" of 9", " of 9"), 0);
            Check.same("asks nothing without", costByMiddle(""), 2);
            Check.same("asks 0", costByMiddle(" asks 0"), 2);
            Check.same("asks 99", costByMiddle(" asks 99"), 101);
            // without it is 0 behind another text too
            ThirdHands x = Check.of("who a of 1 asks 50;who b of 2 asks 60;who c of 3 asks 70;");
            Check.village(x, "who a;who b;who c;sort s 9;makes a s 1 0;wants c s 9;gives a b 0 0;gives b c 0 0;");
            Check.same("b asks nothing now", x.way(0, 0, 0), 0);
            Check.same("all are of one TOWN now", x.other(3, 3, 0), 0);
        });
    }

    private static void sortsAndUnits() {
        Edge.test(FOUR, "'sort' NAME LIFE (1 to 48 HOURS)", () -> {
            good("sort a 1;sort b 48;", 2);
            marked("sort a |0;", 2);
            marked("sort a |49;", 2);
            marked("sort a|;", 1);
        });
        Edge.test(FOUR, "'makes' WHO [ 'with' WHO ] SORT N HOUR (1 to 9 UNITS; 0 to 47)", () -> {
            good(TWO + "makes a s 1 0;makes b with a s 9 47;", 5);
            marked(TWO + "makes a s |0 0;", 2);
            marked(TWO + "makes a s |10 0;", 2);
            marked(TWO + "makes a s 1 |48;", 2);
            marked(TWO + "makes a s 1|;", 1);
            marked(TWO + "makes a with b |with b s 1 0;", 1);
            Check.same("one", Check.of(TWO + "makes a s 1 0;").count(2), 1);
            Check.same("nine", Check.of(TWO + "makes a s 9 0;").count(2), 9);
        });
    }

    private static void wantsAndGivings() {
        Edge.test(FOUR, "'wants' WHO SORT WORTH [ 'by' HOUR ] (0 to 999; 0 to 47, 47 without)", () -> {
            good(TWO + "wants a s 0;wants a s 999 by 0;wants b s 1 by 47;", 6);
            marked(TWO + "wants a s |1000;", 1);
            marked(TWO + "wants a s 1 by |48;", 2);
            marked(TWO + "wants a s 1 by|;", 1);
            ThirdHands x = Check.of(TWO + "wants a s 0;wants a s 999 by 0;wants b s 1 by 47;");
            Check.same("worth", x.want(0, 2), 0);
            Check.same("by without", x.want(0, 3), 47);
            Check.same("worth", x.want(1, 2), 999);
            Check.same("by", x.want(1, 3), 0);
            Check.same("by", x.want(2, 3), 47);
        });
        Edge.test(FOUR, "'gives' WHO WHO PAINS HOURS (0 to 99; 0 to 9)", () -> {
            good(TWO + "gives a b 0 9;gives b a 99 0;", 5);
            marked(TWO + "gives a b |100 0;", 2);
            marked(TWO + "gives a b 0 |10;", 2);
            marked(TWO + "gives a b 0|;", 1);
            ThirdHands x = Check.of(TWO + "gives a b 0 9;gives b a 99 0;");
            Check.same("pains", x.giving(0, 1, 0), 0);
            Check.same("hours", x.giving(0, 1, 1), 9);
            Check.same("pains", x.giving(1, 0, 0), 99);
            Check.same("hours", x.giving(1, 0, 1), 0);
        });
    }

    private static void law() {
        Edge.test(FOUR, "'law' N BACK (2 to 6; BACK: 'any' | 'first' | 'once' | 'towns'; 3 first without)", () -> {
            marked("law |0 any;", 2);
            marked("law |1 any;", 2);
            marked("law |7 any;", 2);
            marked("law 2 |who;", 1);
            marked("law 2 |with;", 1);
            marked("law 2 |law;", 1);
            marked("law 2 |give;", 1);
            marked("law 2 |none;", 1);
            marked("law 2 |3;", 1);
            marked("law 2|;", 1);
            for (int n = 2; n <= 6; n++) {
                for (int back = 0; back < 4; back++) {
                    ThirdHands x = Check.of("law " + n + " " + World.BACKS[back] + ";");
                    Check.same("N", x.count(4), n);
                    Check.same("BACK", x.count(5), back);
                }
            }
            ThirdHands x = Check.of("law 6 towns;");
            Check.village(x, "who a;");
            Check.same("N without", x.count(4), 3);
            Check.same("BACK without", x.count(5), 1);
        });
    }

    private static void names() {
        Edge.test(FOUR, "NAME: a WORD, none of those told here or in a PLAN; told once", () -> {
            String[] words = {"who", "of", "asks", "sort", "makes", "with", "wants", "by", "gives", "law", "any", "first",
                "once", "towns", "give", "use", "wait"};
            for (String word : words) {
                marked("who |" + word + ";", 1);
                marked("sort |" + word + " 5;", 1);
                marked(TWO + "wants |" + word + " s 1;", 1);
                marked(TWO + "wants a |" + word + " 1;", 1);
                marked(TWO + "gives a |" + word + " 1 1;", 1);
            }
            good("who wh;who whoo;who user;who fist;sort waits 1;sort na 1;", 6);
            marked("who |5;", 1);
            marked("sort |5 5;", 1);
            marked(TWO + "makes |5 s 1 1;", 1);
            marked(TWO + "makes a |5 1 1;", 1);
            marked(TWO + "wants |5 s 1;", 1);
            marked(TWO + "wants a |5 1;", 1);
            marked(TWO + "gives |5 b 1 1;", 1);
            marked(TWO + "gives a |5 1 1;", 1);
        });
        Edge.test("Promise 5, Terms 1", "3 a NAME told twice, not told, or of another sort", () -> {
            marked("who a;who |a;", 3);
            marked("who a;sort |a 5;", 3);
            marked("sort a 5;who |a;", 3);
            marked("sort a 5;sort |a 5;", 3);
            marked("who a;who b;who c;who |b;", 3);
            marked("who abcdef;who abcdeg;who |abcdef;", 3);
            marked("makes |a s 1 1;who a;sort s 5;", 3);
            marked("who a;makes a |s 1 1;sort s 5;", 3);
            marked(TWO + "makes |c s 1 1;", 3);
            marked(TWO + "makes a with |c s 1 1;", 3);
            marked(TWO + "makes a |t 1 1;", 3);
            marked(TWO + "wants |c s 1;", 3);
            marked(TWO + "wants a |t 1;", 3);
            marked(TWO + "gives |c a 1 1;", 3);
            marked(TWO + "gives a |c 1 1;", 3);
            marked(TWO + "makes |s s 1 1;", 3);
            marked(TWO + "makes a with |s s 1 1;", 3);
            marked(TWO + "makes a |b 1 1;", 3);
            marked(TWO + "wants |s s 1;", 3);
            marked(TWO + "wants a |a 1;", 3);
            marked(TWO + "gives |s a 1 1;", 3);
            marked(TWO + "gives a |s 1 1;", 3);
        });
    }

    private static void twice() {
        Edge.test("Promise 5, Terms 1", "the same WHO twice in one LINE", () -> {
            marked(TWO + "makes a with |a s 1 1;", 3);
            marked(TWO + "gives a |a 1 1;", 3);
            marked(TWO + "gives b |b 1 1;", 3);
        });
        Edge.test(FOUR, "Two WHO in one LINE are unlike", () -> {
            good(TWO + "makes a with b s 1 1;makes b with a s 1 1;gives a b 1 1;", 6);
            marked(TWO + "makes b with |b s 1 1;", 3);
        });
        Edge.test(FOUR, "of two people one 'gives' each way", () -> {
            good(TWO + "gives a b 1 1;gives b a 1 1;", 5);
            good(TWO + "gives a b 0 0;gives b a 0 0;", 5);
        });
        Edge.test("Promise 5, Terms 1", "a second 'gives' from one to the other (at the latter WHO)", () -> {
            marked(TWO + "gives a b 1 1;gives a |b 2 2;", 3);
            marked(TWO + "gives a b 0 0;gives b a 0 0;gives b |a 0 0;", 3);
            marked(TWO + "gives a b 0 0;gives a |b ?;", 3);
        });
        Edge.test("Promise 5, Terms 1", "law told twice (at it)", () -> {
            marked("law 3 any;|law 3 any;", 3);
            marked("law 2 once;who a;|law 4 towns;", 3);
            marked("law 3 any;|law", 3);
        });
        Edge.test(FOUR, "law once", () -> {
            good("law 3 any;", 1);
            // once in each text: another one may tell it anew, behind a good one and behind a faulty one
            ThirdHands x = Check.of("law 3 any;");
            Check.same("anew", Check.village(x, "law 4 any;"), 1);
            Check.same("twice", Check.village(x, "law 4 any;law 5 any;"), -11);
            Check.same("anew", Check.village(x, "law 5 any;"), 1);
            Check.same("N", x.count(4), 5);
        });
    }

    private static String rows(String head, int n, String tail) {
        StringBuilder s = new StringBuilder();
        for (int k = 0; k < n; k++) {
            s.append(head).append((char) ('a' + k)).append(tail);
        }
        return s.toString();
    }

    private static void limits() {
        Edge.test(FOUR, "8 PEOPLE, 6 SORTS, 16 UNITS, 8 WANTS at most", () -> {
            String all = rows("who p", 8, ";") + rows("sort s", 6, " 5;") + "makes pa sa 9 0;makes pb sb 7 0;"
                + rows("wants p", 8, " sf 1;");
            good(all, 24);
            ThirdHands x = Check.of(all);
            int[] due = {8, 6, 16, 8};
            for (int k = 0; k < 4; k++) {
                Check.same("count " + k, x.count(k), due[k]);
            }
        });
        Edge.test(FOUR, "each numbered from 0 as told (UNITS line by line)", () -> {
            ThirdHands x = Check.of("who a;sort t 7;who b;sort s 5;makes b s 2 3;wants b t 9;makes a t 1 4;wants a s 8;");
            int[][] units = {{1, 1, 3}, {1, 1, 3}, {0, 0, 4}};
            for (int u = 0; u < 3; u++) {
                Check.same("SORT", x.unit(u, 0), units[u][0]);
                Check.same("FIRST", x.unit(u, 1), units[u][1]);
                Check.same("HOUR", x.unit(u, 3), units[u][2]);
            }
            Check.same("who wants", x.want(0, 0), 1);
            Check.same("who wants", x.want(1, 0), 0);
        });
        Edge.test("Promise 5, Terms 1", "4 a ninth WHO, a seventh SORT, a ninth WANT (at the LINE's first WORD)", () -> {
            marked(rows("who p", 8, ";") + "|who x;", 4);
            marked(rows("who p", 8, ";") + "|who pa;", 4);
            marked(rows("sort s", 6, " 5;") + "|sort x 5;", 4);
            marked(rows("sort s", 6, " 5;") + "|sort sa 5;", 4);
            marked(TWO + "wants a s 5;".repeat(8) + "|wants b s 5;", 4);
            marked(TWO + "wants a s 5;".repeat(8) + "|wants s a 5;", 4);
        });
        Edge.test("Promise 5, Terms 1", "UNITS above 16 (at N)", () -> {
            good(TWO + "makes a s 9 0;makes b s 7 0;", 5);
            marked(TWO + "makes a s 9 0;makes b s |8 0;", 4);
            marked(TWO + "makes a s 8 0;makes b s 8 0;makes a s |1 0;", 4);
            marked(TWO + "makes a s 9 0;makes b s |9 99;", 4);
        });
    }

    private static void order() {
        Edge.test("Promise 5, Terms 1", "FAULTS, the first along the text", () -> {
            marked("who a;who |a;?", 3);
            marked("law |1 ?;", 2);
            marked("law |9 any;who a;who a;", 2);
            marked(rows("who p", 8, ";") + "|who ?;", 4);
            marked(TWO + "makes a s |0 48;", 2);
        });
        Edge.test("Promise 5, Terms 1", "of one TOKEN the least", () -> {
            // N above 9 and UNITS above 16: 2 and 4
            marked(TWO + "makes a s 9 0;makes b s 7 0;makes a s |10 0;", 2);
            marked(TWO + "makes a s 9 0;makes b s 7 0;makes a s |0 0;", 2);
            // no TOKEN where UNITS are above 16: 1 and 4
            marked(TWO + "makes a s 9 0;makes b s 7 0;makes a s |1000 0;", 1);
            // behind eight people and a law: who can come, who as a name can't
            marked("law 3 any;" + rows("who p", 8, ";") + "wants |who;", 1);
        });
        Edge.test("Promise 5, Terms 1", "1 no TOKEN, or one that can't come (at it", () -> {
            marked("|;", 1);
            marked("who a;|;", 1);
            marked("|a;", 1);
            marked("|5;", 1);
            marked("|give 0 a;", 1);
            marked("|any;", 1);
            marked("who a |who b;", 1);
            marked("who a |5;", 1);
            marked("who |;", 1);
            marked("who a of |x;", 1);
            marked("who a of |;", 1);
            marked("sort a |s;", 1);
            marked(TWO + "makes a s 1 1 |by;", 1);
            marked(TWO + "wants a s 5 |5;", 1);
            marked(TWO + "gives a b 1 1 |1;", 1);
            marked("law 3 any |any;", 1);
        });
        Edge.test("Promise 5, Terms 1", "2 a NUMBER that is not as told (at it)", () -> {
            marked("who a  of \n |10 ;", 2);
            marked("who a asks |100;", 2);
            marked("sort s |0;", 2);
        });
    }

    private static void ends() {
        Edge.test(FOUR, "the end: how many bytes there are", () -> {
            marked("who|", 1);
            marked("who a|", 1);
            marked("who a \n |", 1);
            marked("who a;who|", 1);
            marked("who a of|", 1);
            marked(TWO + "gives a b 1|", 1);
            marked("law 3 any|", 1);
            Texts.faulty("who a" + blanks(995), 1000, 1);
            Texts.faulty("who a" + blanks(994), 999, 1);
            // what end() took away is not there: no 1 goes on with the word
            ThirdHands x = new ThirdHands();
            x.feed(0x77686f20, 0x61313b20, 0, 0, 0);
            x.end(5);
            Check.same("cut", x.village(), -6);
            Check.same("kind", x.fault(), 1);
            Texts.faulty("who" + blanks(996) + "a".repeat(41), 999, 1);
            Texts.faulty("a".repeat(1040), 0, 1);
            Texts.faulty("1".repeat(1040), 0, 1);
        });
        Edge.test(FOUR, "1000, if there are more and no FAULT is ahead", () -> {
            Texts.faulty("who a;" + blanks(1034), 1000, 1);
            Texts.faulty("who a" + blanks(1000), 1000, 1);
            Texts.faulty("who" + blanks(997) + "a;", 1000, 1);
            Texts.faulty(blanks(1000) + "?", 1000, 1);
            Texts.faulty(blanks(1000) + "who a;who a;", 1000, 1);
            // a FAULT ahead
            Texts.faulty("who b;who b" + blanks(1020), 10, 3);
            Texts.faulty(blanks(999) + "?" + blanks(9), 999, 1);
            Texts.faulty("law 9" + blanks(1000), 4, 2);
        });
        Edge.test(FOUR, "TOKENS that begin ahead of it are read whole", () -> {
            Texts.faulty("who " + blanks(995) + "ab;", 1000, 1);
            // read whole each is faulty, cut at 1000 it would not be
            Texts.faulty("who " + blanks(994) + "abcdefg;", 998, 1);
            Texts.faulty("who " + blanks(995) + "asks;", 999, 1);
            Texts.faulty("law " + blanks(995) + "33 any;", 999, 2);
            Texts.faulty("law " + blanks(995) + "3a", 999, 1);
            Texts.faulty("law " + blanks(993) + "0003 any;", 997, 1);
            // read whole each is good, cut at 1000 it would not be
            Texts.faulty("who a;" + blanks(992) + "who b;", 1000, 1);
            Texts.faulty("law 3" + blanks(992) + "towns;", 1000, 1);
        });
    }

    private static final String UNITS = "who a;who b;sort s 5;makes a s 3 0;";

    private static void planLengths() {
        Edge.test(PLAN, "A PLAN is a text of at most 500 bytes", () -> {
            ThirdHands x = Check.of(UNITS);
            Texts.goodPlan(x, "", 0);
            Texts.goodPlan(x, blanks(500), 0);
            Texts.goodPlan(x, "use 0;" + blanks(494), 1);
            Texts.goodPlan(x, blanks(494) + "use 0;", 1);
            Texts.markedPlan(x, "use 0;" + blanks(494) + "| ", 1);
            Texts.markedPlan(x, blanks(495) + "use 0|;", 1);
        });
        Edge.test(PLAN, "1 (500 in place of 1000)", () -> {
            ThirdHands x = Check.of(UNITS);
            Check.plan(x, "wait 1;wait 2;");
            Texts.markedPlan(x, blanks(500) + "|?", 1);
            Texts.markedPlan(x, blanks(500) + "|" + blanks(540), 1);
            Texts.markedPlan(x, blanks(499) + "|?", 1);
            Texts.markedPlan(x, "use |3" + blanks(600), 2);
            Texts.markedPlan(x, "use" + blanks(496) + "|03;", 2);
            Texts.markedPlan(x, "use" + blanks(496) + "|0003;", 1);
            Texts.markedPlan(x, "use|", 1);
            Texts.markedPlan(x, "use 0 |", 1);
            // a TOKEN that is good when it is read whole: then there are more than 500
            Check.same("plan", Check.plan(x, "use" + blanks(496) + "02;"), -501);
            Check.same("fault", x.fault(), 1);
            Check.same("acts stay", x.count(6), 2);
        });
        Edge.test(PLAN, "{ 'give' UNIT WHO ; | 'use' UNIT ; | 'wait' N ; }", () -> {
            ThirdHands x = Check.of(UNITS);
            Texts.goodPlan(x, "give 0 a;use 2;wait 3;", 3);
            for (String one : new String[] {"|;", "use 0;|;", "|who a;", "|gives 0 a;", "|5;", "|any;", "|a;", "give |a;",
                "give 0 |5;", "give 0|;", "give|;", "give 0 |use;", "give 0 b |b;", "use|;", "use |a;", "use 0 |b;",
                "wait|;", "wait |a;", "wait 1 |1;", "use 0|.", "|?", "give 0 |abcdefg;", "use |0000;"}) {
                Texts.markedPlan(x, one, 1);
            }
        });
    }

    private static void planFaults() {
        Edge.test(PLAN, "UNIT: its number, a NUMBER; N 1 to 47", () -> {
            ThirdHands x = Check.of(UNITS);
            Texts.goodPlan(x, "wait 1;wait 47;wait 001;", 3);
            Texts.markedPlan(x, "wait |0;", 2);
            Texts.markedPlan(x, "wait |48;", 2);
            Texts.markedPlan(x, "wait |999;", 2);
        });
        Edge.test(PLAN, "2 a UNIT that is not there, N", () -> {
            ThirdHands x = Check.of(UNITS);
            Texts.goodPlan(x, "use 0;use 2;use 002;give 2 b;", 4);
            Texts.markedPlan(x, "use |3;", 2);
            Texts.markedPlan(x, "give |3 b;", 2);
            Texts.markedPlan(x, "give |3 z;", 2);
            Texts.markedPlan(new ThirdHands(), "use |0;", 2);
            Texts.markedPlan(Check.of("who a;"), "give |0 a;", 2);
        });
        Edge.test(PLAN, "3 no such WHO", () -> {
            ThirdHands x = Check.of(UNITS);
            Texts.goodPlan(x, "give 0 b;give 0 a;", 2);
            Texts.markedPlan(x, "give 0 |c;", 3);
            Texts.markedPlan(x, "give 0 |s;", 3);
            Texts.markedPlan(x, "give 0 |ab;", 3);
        });
        Edge.test(PLAN, "4 a 51st ACT (at its first WORD)", () -> {
            ThirdHands x = Check.of(UNITS);
            Texts.goodPlan(x, "wait 1;".repeat(50), 50);
            for (String word : new String[] {"give", "use", "wait"}) {
                Texts.markedPlan(x, "wait 1;".repeat(50) + "|" + word + " 9;", 4);
                Texts.markedPlan(x, "wait 1;".repeat(50) + "|" + word, 4);
            }
            Texts.markedPlan(x, "wait 1;".repeat(50) + "|who;", 1);
            Texts.markedPlan(x, "wait 1;".repeat(50) + "|;", 1);
            Texts.markedPlan(x, "wait 1;".repeat(49) + "wait 1 |wait", 1);
        });
    }
}
