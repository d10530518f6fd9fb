import java.nio.charset.StandardCharsets;

/** Promises 1 to 8, 15 to 17 and 40: the tape, the texts and what they tell. */
public final class TextTest {
    private static final String TWO = "who a;who b;sort s 5;";

    private TextTest() {
    }

    public static void main(String[] args) {
        newObject();
        tape();
        lines();
        tokens();
        names();
        numbers();
        limits();
        longTexts();
        faultKept();
        told();
        plans();
        longPlans();
        drawn();
        counts();
        Check.finish("texts");
    }

    private static void newObject() {
        ThirdHands x = new ThirdHands();
        int[] due = {0, 0, 0, 0, 3, 1, 0, 0, 0};
        for (int k = 0; k < due.length; k++) {
            Check.same("count of a new object " + k, x.count(k), due[k]);
        }
        Check.same("NONE", ThirdHands.NONE, -1);
        Check.same("fault of a new object", x.fault(), 0);
    }

    private static void tape() {
        ThirdHands x = new ThirdHands();
        for (int k = 1; k <= 52; k++) {
            Check.same("feed", x.feed(1, 2, 3, 4, 5), 20 * k);
        }
        Check.same("a feed too much", x.feed(1, 2, 3, 4, 5), -1);
        Check.same("bytes", x.count(8), 1040);
        Check.same("end above", x.end(1041), false);
        Check.same("end below", x.end(-1), false);
        Check.same("end of the least", x.end(Integer.MIN_VALUE), false);
        Check.same("bytes", x.count(8), 1040);
        Check.same("end of all", x.end(1040), true);
        Check.same("end", x.end(1021), true);
        Check.same("a feed too much", x.feed(1, 2, 3, 4, 5), -1);
        Check.same("bytes", x.count(8), 1021);
        Check.same("end", x.end(1020), true);
        Check.same("the last feed", x.feed(1, 2, 3, 4, 5), 1040);
        Check.same("end", x.end(0), true);
        Check.same("end above", x.end(1), false);
        // the highest byte of each number first: 'w' 'h' 'o' ' ' ...
        x.feed(0x77686f20, 0x613b7768, 0x6f20623b, 0x20202020, 0x0a0a0a20);
        Check.same("village", x.village(), 2);
        Check.same("people", x.count(0), 2);
    }

    private static void lines() {
        Texts.good("", 0);
        Texts.good(" \n ", 0);
        Texts.good("who a;", 1);
        Texts.good("who a of 9 asks 99;", 1);
        Texts.good("who a asks 0;who b of 0;", 2);
        Texts.good("\nwho\na\nof\n3;", 1);
        Texts.good(TWO + "makes a s 1 0;makes a with b s 9 47;", 5);
        Texts.good(TWO + "wants a s 0;wants a s 999 by 0;wants b s 1 by 47;", 6);
        Texts.good(TWO + "gives a b 99 9;gives b a 0 0;", 5);
        Texts.good("law 2 any;", 1);
        Texts.good("law 6 towns;who a;", 2);
        Texts.good("law 3 once;", 1);
        Texts.good("law 3 first;", 1);
        Texts.marked("|;", 1);
        Texts.marked("who a;|;", 1);
        Texts.marked("|a;", 1);
        Texts.marked("|5;", 1);
        Texts.marked("|give 0 a;", 1);
        Texts.marked("who a|", 1);
        Texts.marked("who a;who|", 1);
        Texts.marked("who a \n |", 1);
        Texts.marked("who |;", 1);
        Texts.marked("who |5;", 1);
        Texts.marked("who a of|", 1);
        Texts.marked("who a of |x;", 1);
        Texts.marked("who a asks 5 |of 2;", 1);
        Texts.marked("who a of 2 |of 2;", 1);
        Texts.marked("who a |by 2;", 1);
        Texts.marked("who a |b;", 1);
        Texts.marked("who a |who b;", 1);
        Texts.marked("sort a|;", 1);
        Texts.marked("sort a |b;", 1);
        Texts.marked("sort a 5 |5;", 1);
        Texts.marked(TWO + "makes a |5 1 1;", 1);
        Texts.marked(TWO + "makes a with |5;", 1);
        Texts.marked(TWO + "makes a with b |with b s 1 1;", 1);
        Texts.marked(TWO + "makes a s|;", 1);
        Texts.marked(TWO + "makes a s 1|;", 1);
        Texts.marked(TWO + "makes a s 1 1 |by;", 1);
        Texts.marked(TWO + "wants a s|;", 1);
        Texts.marked(TWO + "wants a s 5 by|;", 1);
        Texts.marked(TWO + "wants a s 5 |5;", 1);
        Texts.marked(TWO + "wants a s 5 by 5 |by 5;", 1);
        Texts.marked(TWO + "gives a b 1|;", 1);
        Texts.marked(TWO + "gives a b 1 1 |1;", 1);
        Texts.marked("law 3|;", 1);
        Texts.marked("law |any 3;", 1);
        Texts.marked("law 3 |a;", 1);
        Texts.marked("law 3 |with;", 1);
        Texts.marked("law 3 |law;", 1);
        Texts.marked("law 3 |give;", 1);
        Texts.marked("law 3 any |any;", 1);
    }

    private static void tokens() {
        Texts.good("who abcdef;", 1);
        Texts.marked("who |abcdefg;", 1);
        Texts.marked("who |a1;", 1);
        Texts.marked("who a of |1a;", 1);
        Texts.good("who a asks 007;", 1);
        Texts.marked("who a asks |0007;", 1);
        Texts.marked(TWO + "gives a |abcdefg 1 1;", 1);
        Texts.marked(TWO + "gives a |b1 1 1;", 1);
        Texts.marked(TWO + "gives a b 1 |0001;", 1);
        Texts.marked(TWO + "gives a b 1 |1b;", 1);
        Texts.marked(TWO + "gives a b 1 |b1;", 1);
        Texts.marked("law 3 any;|law1 3 any;", 1);
        Texts.marked("who |A;", 1);
        Texts.marked("who a|.", 1);
        Texts.marked("|.", 1);
        Texts.marked("who a|,", 1);
        Texts.marked("who|\ta;", 1);
        Texts.marked("who|\ra;", 1);
        Texts.marked("who a|\u0000;", 1);
        Texts.marked("who a|\u00e9;", 1);
        Texts.marked("|\u00ff", 1);
        Texts.marked("who a|`;", 1);
        Texts.marked("who a|{;", 1);
        Texts.marked("who a of |/;", 1);
        Texts.marked("who a of |:;", 1);
        Texts.marked("|whoa;", 1);
        Texts.good("who a of 1 asks 5;who b;", 2);
        Texts.marked("who a of |1asks 5;", 1);
        Texts.good("who a;sort s 5;makes a s 1 1;wants a s 5 by 5;", 4);
        Texts.marked("who a;sort s 5;makes a s |1x 1;", 1);
    }

    private static void names() {
        String[] words = {"who", "of", "asks", "sort", "makes", "with", "wants", "by", "gives", "law", "any", "first",
            "once", "towns", "give", "use", "wait"};
        for (String word : words) {
            Texts.marked("who |" + word + ";", 1);
            Texts.marked("sort |" + word + " 5;", 1);
            Texts.marked(TWO + "makes |" + word + " s 1 1;", 1);
            Texts.marked(TWO + "wants a |" + word + " 1;", 1);
            Texts.marked(TWO + "gives a |" + word + " 1 1;", 1);
        }
        Texts.good("who back;who town;who asksa;who wh;", 4);
        Texts.marked("who a;who |a;", 3);
        Texts.marked("who a;sort |a 5;", 3);
        Texts.marked("sort a 5;who |a;", 3);
        Texts.marked("sort a 5;sort |a 5;", 3);
        Texts.marked("makes |a s 1 1;who a;sort s 5;", 3);
        Texts.marked("who a;makes a |s 1 1;sort s 5;", 3);
        Texts.marked(TWO + "makes |s s 1 1;", 3);
        Texts.marked(TWO + "makes a |b 1 1;", 3);
        Texts.marked(TWO + "makes a |c 1 1;", 3);
        Texts.marked(TWO + "makes a with |a s 1 1;", 3);
        Texts.marked(TWO + "makes a with |s s 1 1;", 3);
        Texts.marked(TWO + "makes a with |c s 1 1;", 3);
        Texts.marked(TWO + "wants |s s 1;", 3);
        Texts.marked(TWO + "wants a |a 1;", 3);
        Texts.marked(TWO + "gives a |a 1 1;", 3);
        Texts.marked(TWO + "gives |c a 1 1;", 3);
        Texts.marked(TWO + "gives a |c 1 1;", 3);
        Texts.marked(TWO + "gives a b 1 1;gives a |b 2 2;", 3);
        Texts.marked("law 3 any;|law 3 any;", 3);
        Texts.marked("law 3 any;|law;", 3);
    }

    private static void numbers() {
        Texts.marked("who a of |10;", 2);
        Texts.marked("who a asks |100;", 2);
        Texts.marked("sort a |0;", 2);
        Texts.marked("sort a |49;", 2);
        Texts.good("sort a 48;sort b 1;", 2);
        Texts.marked(TWO + "makes a s |0 1;", 2);
        Texts.marked(TWO + "makes a s |10 1;", 2);
        Texts.marked(TWO + "makes a s 1 |48;", 2);
        Texts.marked(TWO + "wants a s |1000;", 1);
        Texts.marked(TWO + "wants a s 1 by |48;", 2);
        Texts.marked(TWO + "gives a b |100 1;", 2);
        Texts.marked(TWO + "gives a b 1 |10;", 2);
        Texts.marked("law |1 any;", 2);
        Texts.marked("law |7 any;", 2);
        Texts.marked("law |0 a;", 2);
        // the first along the text, though a lesser kind comes behind it
        Texts.marked("who a;who |a;?", 3);
        Texts.marked("law |1 ?;", 2);
    }

    private static void limits() {
        StringBuilder people = new StringBuilder();
        StringBuilder sorts = new StringBuilder();
        StringBuilder wants = new StringBuilder(TWO);
        for (int k = 0; k < 8; k++) {
            people.append("who p").append((char) ('a' + k)).append(";");
            wants.append("wants a s 5;");
        }
        for (int k = 0; k < 6; k++) {
            sorts.append("sort s").append((char) ('a' + k)).append(" 5;");
        }
        Texts.good(people.toString() + sorts, 14);
        Texts.marked(people + "|who x;", 4);
        Texts.marked(people + "|who pa;", 4);
        Texts.marked(people + "|who", 4);
        Texts.marked(sorts + "|sort x 5;", 4);
        Texts.good(wants.toString(), 11);
        Texts.marked(wants + "|wants b s 5;", 4);
        Texts.good(TWO + "makes a s 9 0;makes b s 7 0;", 5);
        Texts.marked(TWO + "makes a s 9 0;makes b s |8 0;", 4);
        Texts.marked(TWO + "makes a s 9 0;makes b s 7 0;makes a s |1 0;", 4);
        Texts.marked(TWO + "makes a s 9 0;makes b s 7 0;makes a s |10 0;", 2);
        Texts.marked(TWO + "makes a s 9 0;makes b s |8 99;", 4);
    }

    private static void longTexts() {
        Texts.good("who a;" + Texts.blanks(994), 1);
        Texts.faulty("who a;" + Texts.blanks(995), 1000, 1);
        Texts.faulty("who a;" + Texts.blanks(1034), 1000, 1);
        Texts.good(Texts.blanks(994) + "who a;", 1);
        Texts.faulty(Texts.blanks(995) + "who a;", 1000, 1);
        Texts.faulty(Texts.blanks(998) + "who a;", 1000, 1);
        Texts.faulty(Texts.blanks(1001) + "?", 1000, 1);
        Texts.faulty(Texts.blanks(999) + "?" + Texts.blanks(9), 999, 1);
        Texts.faulty("who " + Texts.blanks(994) + "abcdef;", 1000, 1);
        Texts.faulty("who " + Texts.blanks(994) + "abcdefg;", 998, 1);
        Texts.faulty("who " + Texts.blanks(995) + "asksab;", 1000, 1);
        Texts.faulty("who " + Texts.blanks(995) + "asks;", 999, 1);
        Texts.faulty("law " + Texts.blanks(995) + "33 any;", 999, 2);
        Texts.faulty("law " + Texts.blanks(995) + "3 any;", 1000, 1);
        Texts.faulty("who a;who b" + Texts.blanks(989), 1000, 1);
        Texts.faulty("who a;who b" + Texts.blanks(988), 999, 1);
        Texts.faulty("who b;who b" + Texts.blanks(1020), 10, 3);
    }

    private static void faultKept() {
        ThirdHands x = Check.of("who a;");
        Check.village(x, "who a;who a;");
        Check.same("fault", x.fault(), 3);
        x.count(0);
        x.most();
        Check.same("fault stays", x.fault(), 3);
        Check.plan(x, "wait 0;");
        Check.same("fault of a plan", x.fault(), 2);
        Check.plan(x, "wait 1;");
        Check.same("fault of a good plan", x.fault(), 0);
        Check.plan(x, "wait;");
        Check.same("fault of a plan", x.fault(), 1);
        Check.village(x, "");
        Check.same("fault of a good village", x.fault(), 0);
    }

    private static void told() {
        ThirdHands x = Check.of("who a;who b;sort s 5;sort t 48;makes b with a t 2 47;makes a s 1 3;"
            + "wants b t 7;wants a s 999 by 0;gives b a 9 8;");
        int[][] units = {{1, 1, 0, 47, 95}, {1, 1, 0, 47, 95}, {0, 0, -1, 3, 8}};
        int[][] wants = {{1, 1, 7, 47}, {0, 0, 999, 0}};
        for (int u = 0; u < 3; u++) {
            int unit = u;
            for (int k = 0; k < 5; k++) {
                int what = k;
                Check.same("unit " + u + " " + k, Check.of(() -> x.unit(unit, what)), units[u][k]);
            }
            Check.refuses("unit", () -> x.unit(unit, 5));
            Check.refuses("unit", () -> x.unit(unit, -1));
        }
        Check.refuses("unit", () -> x.unit(3, 0));
        Check.refuses("unit", () -> x.unit(-1, 0));
        for (int w = 0; w < 2; w++) {
            int want = w;
            for (int k = 0; k < 4; k++) {
                int what = k;
                Check.same("want " + w + " " + k, Check.of(() -> x.want(want, what)), wants[w][k]);
            }
            Check.refuses("want", () -> x.want(want, 4));
            Check.refuses("want", () -> x.want(want, -1));
        }
        Check.refuses("want", () -> x.want(2, 0));
        Check.refuses("want", () -> x.want(-1, 0));
        Check.same("giving", x.giving(1, 0, 0), 9);
        Check.same("giving", x.giving(1, 0, 1), 8);
        Check.same("giving of another what", x.giving(1, 0, 2), -1);
        Check.same("giving of another what", x.giving(1, 0, -1), -1);
        Check.same("giving not told", x.giving(0, 1, 0), -1);
        Check.same("giving not told", x.giving(0, 1, 1), -1);
        Check.same("giving to himself", x.giving(0, 0, 0), -1);
        Check.same("giving to nobody", x.giving(1, 2, 0), -1);
        Check.same("giving of nobody", x.giving(-1, 0, 0), -1);
        Check.village(x, "who a of 1 asks 50;who b of 2 asks 60;who c of 3 asks 70;");
        Check.village(x, "who a;who b;who c;sort s 9;makes a s 1 0;wants c s 9;gives a b 0 0;gives b c 0 0;");
        Check.same("b asks nothing now", x.way(0, 0, 0), 0);
        Check.same("all are of one town now", x.other(3, 3, 0), 0);
        Check.village(x, "who a;who b;");
        Check.same("a new village has no old giving", x.giving(1, 0, 0), -1);
        Check.refuses("a new village has no old unit", () -> x.unit(0, 0));
    }

    private static void plans() {
        ThirdHands x = Check.of("who a;who b;sort s 5;makes a s 3 0;");
        Check.same("plan", Check.plan(x, "give 2 b;use 0;wait 47;\ngive\n001 a;"), 4);
        Check.same("fault", x.fault(), 0);
        Check.same("the tape is empty", x.count(8), 0);
        int[][] due = {{0, 2, 1}, {1, 0, -1}, {2, 47, -1}, {0, 1, 0}};
        for (int i = 0; i < 4; i++) {
            int act = i;
            for (int k = 0; k < 3; k++) {
                int what = k;
                Check.same("act " + i + " " + k, Check.of(() -> x.act(act, what)), due[i][k]);
            }
            Check.refuses("act", () -> x.act(act, 3));
            Check.refuses("act", () -> x.act(act, -1));
        }
        Check.refuses("act", () -> x.act(4, 0));
        Check.refuses("act", () -> x.act(-1, 0));
        String[] ones = {"|;", "|who a;", "|gives 0 a;", "|5;", "give|;", "give |a;", "give 0|;", "give 0 |5;",
            "give 0 |use;", "give 0 |who;", "give 0 |with;", "give 0 b |b;", "use|;", "use 0 |b;", "wait|;", "wait |a;",
            "wait 1 |1;", "wait 1|", "use 0|.", "|?", "give 0 |abcdefg;"};
        for (String one : ones) {
            Texts.markedPlan(x, one, 1);
        }
        String[] twos = {"give |3 b;", "use |3;", "use |999;", "wait |0;", "wait |48;", "give |3 ?;"};
        for (String two : twos) {
            Texts.markedPlan(x, two, 2);
        }
        Texts.markedPlan(x, "give 0 |c;", 3);
        Texts.markedPlan(x, "give 0 |s;", 3);
        Check.same("an empty plan", Check.plan(x, ""), 0);
        Check.refuses("act", () -> x.act(0, 0));
        ThirdHands none = new ThirdHands();
        Texts.markedPlan(none, "use |0;", 2);
        Check.same("a plan of waits alone", Check.plan(none, "wait 3;"), 1);
    }

    private static void longPlans() {
        ThirdHands x = Check.of("who a;who b;sort s 5;makes a s 3 0;");
        String fifty = "wait 1;".repeat(50);
        Check.same("50 acts", Check.plan(x, fifty), 50);
        Texts.markedPlan(x, fifty + "|wait 1;", 4);
        Texts.markedPlan(x, fifty + "|use", 4);
        Texts.markedPlan(x, fifty + "|who;", 1);
        Texts.markedPlan(x, fifty + "|;", 1);
        Check.same("500 bytes", Check.plan(x, fifty + Texts.blanks(150)), 50);
        Texts.markedPlan(x, fifty + Texts.blanks(150) + "| ", 1);
        Texts.markedPlan(x, fifty + Texts.blanks(150) + "|use 0;", 1);
        Texts.markedPlan(x, fifty + Texts.blanks(149) + "|use 0;", 4);
        Texts.markedPlan(x, "use 0" + Texts.blanks(495) + "|;", 1);
        Check.same("a token at the very end", Check.plan(x, "use 0" + Texts.blanks(494) + ";"), 1);
        Texts.markedPlan(x, "use" + Texts.blanks(496) + "|0000;", 1);
        longToken(x, "use" + Texts.blanks(496) + "002;");
    }

    /** The last token is read whole, and good, though it ends behind the 500 bytes: then there are more. */
    private static void longToken(ThirdHands x, String text) {
        Check.same("plan of " + text, Check.plan(x, text), -1 - 500);
        Check.same("fault of " + text, x.fault(), 1);
    }

    private static void drawn() {
        ThirdHands x = Check.of("who a;who b;who c;sort s 5;makes a s 5 0;");
        Check.same("drawn", x.drawn(50, 7), 50);
        Check.same("acts", x.count(6), 50);
        int y = 7;
        for (int i = 0; i < 50; i++) {
            y = y * 1103515245 + 12345;
            int kind = (y >>> 8) % 4;
            y = y * 1103515245 + 12345;
            int unit = (y >>> 8) % 5;
            y = y * 1103515245 + 12345;
            int who = (y >>> 8) % 3;
            Check.same("what drawn", x.act(i, 0), kind == 0 ? 1 : kind == 1 ? 2 : 0);
            Check.same("unit drawn", x.act(i, 1), kind == 1 ? 1 : unit);
            Check.same("whom drawn", x.act(i, 2), kind > 1 ? who : -1);
        }
        Check.same("drawn of none", x.drawn(0, 7), -1);
        Check.same("drawn of too many", x.drawn(51, 7), -1);
        Check.same("drawn below none", x.drawn(-1, 7), -1);
        Check.same("acts stay", x.count(6), 50);
        Check.same("drawn one", x.drawn(1, -5), 1);
        Check.same("acts", x.count(6), 1);
        ThirdHands none = Check.of("who a;sort s 5;");
        Check.same("drawn without units", none.drawn(1, 7), -1);
    }

    private static void counts() {
        ThirdHands x = Check.of("who a;who b;sort s 5;sort t 5;sort v 5;makes a s 3 0;makes b s 2 0;wants a s 5;law 5 towns;");
        Check.plan(x, "wait 1;wait 1;");
        x.note(0, 0, 1, 0);
        byte[] some = "1234567".getBytes(StandardCharsets.ISO_8859_1);
        Check.feed(x, some);
        int[] due = {2, 3, 5, 1, 5, 3, 2, 1, 7};
        for (int k = 0; k < due.length; k++) {
            Check.same("count " + k, x.count(k), due[k]);
        }
        Check.same("count of another what", x.count(9), -1);
        Check.same("count of another what", x.count(-1), -1);
        Check.village(x, "law 4 once;");
        int[] anew = {0, 0, 0, 0, 4, 2, 0, 0, 0};
        for (int k = 0; k < anew.length; k++) {
            Check.same("count " + k + " anew", x.count(k), anew[k]);
        }
        Check.village(x, "law 4 any;");
        Check.same("any", x.count(5), 0);
        Check.village(x, "");
        Check.same("no law", x.count(4), 3);
        Check.same("no law", x.count(5), 1);
    }
}
