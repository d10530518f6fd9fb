import java.io.IOException;

/** The edges that promises 21 to 40 name, sentence by sentence. */
public final class LatePromiseEdgeTest {
    /** Numbers that are no numbers of anything. */
    private static final int[] WILD = {-1, -2, 100, 255, 256, 1 << 16, Integer.MAX_VALUE, Integer.MIN_VALUE};

    private static final String TOWN = "who a;who b asks 3;who c;sort s 9;sort t 9;makes a s 2 1;makes b with c t 1 4;wants c s 9;"
        + "wants a t 8 by 20;gives a b 1 2;gives b c 5 0;gives b a 0 9;";

    private LatePromiseEdgeTest() {
    }

    public static void main(String[] args) throws IOException {
        ways();
        latest();
        rest();
        middle();
        ring();
        gain();
        lasts();
        quarrel();
        mend();
        liveAndStop();
        other();
        note();
        lies();
        image();
        restore();
        count();
        Edge.finish("edges of promises 21 to 40", args[1], 21, 40);
    }

    private static void ways() {
        String all = "who a;who b;sort s 9;sort t 9;makes a s 1 0;wants b s 5;wants a s 5;wants b t 5;gives a b 1 1;gives b a 1 1;law 3 ";
        Edge.test("Promise 21", "How many WAYS of h hands (2 to 6; BACK as told) of UNIT u DO for WANT w", () -> {
            ThirdHands x = Check.of(all + "any;");
            int[] toB = {1, 0, 1, 0, 1};
            for (int h = 2; h <= 6; h++) {
                Check.same(h + " hands to b", x.ways(0, 0, h), toB[h - 2]);
                Check.same(h + " hands to a", x.ways(0, 1, h), 1 - toB[h - 2]);
            }
            x = Check.of(all + "first;");
            Check.same("BACK as told", x.ways(0, 0, 4), 0);
            Check.same("two hands still", x.ways(0, 0, 2), 1);
            // of those that DO: 5 hours are too many
            x = Check.of(all.replace("b s 5", "b s 5 by 4") + "any;");
            Check.same("in 3 hours", x.ways(0, 0, 4), 1);
            Check.same("in 5 hours", x.ways(0, 0, 6), 0);
            Check.same("of another SORT none", x.ways(0, 2, 2), 0);
        });
        Edge.test("Promise 21", "NONE: no such ones", () -> {
            ThirdHands x = Check.of(all + "any;");
            Check.same("one hand", x.ways(0, 0, 1), -1);
            Check.same("no hands", x.ways(0, 0, 0), -1);
            Check.same("seven hands", x.ways(0, 0, 7), -1);
            Check.same("no unit", x.ways(1, 0, 3), -1);
            Check.same("no want", x.ways(0, 3, 3), -1);
            for (int wild : WILD) {
                Check.same("no unit", x.ways(wild, 0, 3), -1);
                Check.same("no want", x.ways(0, wild, 3), -1);
                Check.same("no such number of hands", x.ways(0, 0, wild), -1);
            }
            Check.same("nothing", new ThirdHands().ways(0, 0, 3), -1);
        });
    }

    private static final String HASTE = "who a;who b;who c;who d;sort s 9;makes a s 1 4;gives a b 9 0;gives b d 9 1;gives a c 0 1;"
        + "gives c d 0 1;wants d s 5";

    private static void latest() {
        Edge.test("Promise 22", "The latest HOUR in which the first hand may begin (each hand giving at once) so that UNIT u DOES", () -> {
            // by the quicker way: 1 hour
            Check.same("by 10", Check.of(HASTE + " by 10;").latest(0, 0), 9);
            Check.same("by 5, as it is made", Check.of(HASTE + " by 5;").latest(0, 0), 4);
            Check.same("SPOILT at 13", Check.of(HASTE + ";").latest(0, 0), 11);
            Check.same("by 12", Check.of(HASTE + " by 12;").latest(0, 0), 11);
            Check.same("by 11", Check.of(HASTE + " by 11;").latest(0, 0), 10);
            // at once, up to the last hour
            Check.same("of 0 hours", Check.of("who a;who b;sort s 48;makes a s 1 0;wants b s 5;gives a b 0 0;law 2 any;").latest(0, 0), 47);
            Check.same("by 0", Check.of("who a;who b;sort s 48;makes a s 1 0;wants b s 5 by 0;gives a b 0 0;law 2 any;").latest(0, 0), 0);
            Check.same("a life of 1", Check.of("who a;who b;sort s 1;makes a s 1 7;wants b s 5;gives a b 0 0;law 2 any;").latest(0, 0), 7);
        });
        Edge.test("Promise 22", "by the WAY of the least HOURS of N hands", () -> {
            Check.same("not by the two hands", Check.of(HASTE + ";gives a d 0 0;").latest(0, 0), 11);
            Check.same("by law 2", Check.of(HASTE + ";gives a d 0 0;law 2 first;").latest(0, 0), 12);
        });
        Edge.test("Promise 22", "NONE: none DOES, no such ones", () -> {
            ThirdHands x = Check.of(HASTE + " by 4;sort t 9;wants d t 5;wants c s 5;");
            Check.same("an hour too late", x.latest(0, 0), -1);
            Check.same("another SORT", x.latest(0, 1), -1);
            Check.same("no WAY", x.latest(0, 2), -1);
            Check.same("no unit", x.latest(1, 0), -1);
            Check.same("no want", x.latest(0, 3), -1);
            for (int wild : WILD) {
                Check.same("no unit", x.latest(wild, 0), -1);
                Check.same("no want", x.latest(0, wild), -1);
            }
            Check.same("nothing", new ThirdHands().latest(0, 0), -1);
        });
    }

    private static ThirdHands rivals(int d) {
        return Check.of("who a;who b asks 2;who c;who d asks " + d + ";sort s 9;makes a s 1 0;wants c s 9;gives a b 1 0;"
            + "gives b c 1 0;gives a d 1 0;gives d c 1 0;");
    }

    private static void rest() {
        Edge.test("Promise 23", "in how many rounds (the last one, in which nobody changes, too); NONE: 6 are too few", () -> {
            Check.same("nobody is there", new ThirdHands().rest(), 1);
            Check.same("nobody changes", Check.of("who a asks 0;who b;").rest(), 1);
            Check.same("one who can get nothing", Check.of("who a asks 5;").rest(), 2);
            // b comes to 5 with the last change in round 5, the 6th is quiet; by one more there is none
            int[] due = {2, 3, 4, 5, 6, -1, -1};
            for (int d = 0; d < due.length; d++) {
                Check.same("d asks " + d, rivals(d).rest(), due[d]);
            }
        });
        Edge.test("Promise 24", "What a WHO asks at the end of the latest rest() (also one that was NONE)", () -> {
            ThirdHands x = rivals(99);
            Check.same("rest", x.rest(), -1);
            Check.same("b", x.restOf(1), 2);
            Check.same("d", x.restOf(3), 1);
            Check.same("a asks nothing", x.restOf(0), 0);
            Check.village(x, "who a;who b asks 7;");
            Check.same("of the latest rest still", x.restOf(1), 2);
            x.rest();
            Check.same("of the latest rest", x.restOf(1), 0);
        });
        Edge.test("Promise 24", "NONE: no such one of that VILLAGE, or ahead of any", () -> {
            ThirdHands x = rivals(3);
            for (int k = 0; k < 4; k++) {
                Check.same("ahead of any", x.restOf(k), -1);
            }
            x.rest();
            Check.same("the last one", x.restOf(3), 0);
            Check.same("no such one", x.restOf(4), -1);
            for (int wild : WILD) {
                Check.same("no such one", x.restOf(wild), -1);
            }
            Check.village(x, "who a;");
            Check.same("one of that VILLAGE", x.restOf(3), 0);
            x.rest();
            Check.same("one of this one", x.restOf(0), 0);
            Check.same("none of this one", x.restOf(1), -1);
            Check.village(x, "who a;who b;");
            Check.same("none of that VILLAGE", x.restOf(1), -1);
            x = new ThirdHands();
            x.rest();
            Check.same("nobody is there", x.restOf(0), -1);
        });
    }

    private static void middle() {
        Edge.test("Promise 25", "NONE: no such one", () -> {
            ThirdHands x = rivals(5);
            Check.same("the last one", x.middle(3), 1);
            Check.same("no such one", x.middle(4), -1);
            for (int wild : WILD) {
                Check.same("no such one", x.middle(wild), -1);
            }
            Check.same("nobody is there", new ThirdHands().middle(0), -1);
        });
        Edge.test("Promise 26", "What he gets by the latest middle() that was not NONE; NONE ahead of any", () -> {
            ThirdHands x = rivals(5);
            Check.same("ahead of any", x.middleBy(), -1);
            x.middle(4);
            Check.same("ahead of any that is not NONE", x.middleBy(), -1);
            x.middle(1);
            Check.same("b undercuts d, being the first", x.middleBy(), 5);
            x.middle(-1);
            x.rest();
            x.best(0);
            Check.same("still b's", x.middleBy(), 5);
            Check.village(x, "who a;");
            Check.same("still b's", x.middleBy(), 5);
            x.middle(0);
            Check.same("a gets nothing", x.middleBy(), 0);
        });
    }

    private static final String ROUND = "who a;who b;who c;sort s 9;makes a s 1 0;makes c s 1 0;gives a b 1 0;gives b c 2 0;gives c a 3 0;"
        + "gives b a 4 0;wants c s 9;";

    private static void ring() {
        Edge.test("Promise 27", "RING of the tape's PEOPLE (each byte is the number of one: 2 to 8, unlike)", () -> {
            ThirdHands x = Check.of(ROUND);
            x.feed(0x00010200, 0, 0, 0, 0);
            x.end(3);
            Check.same("bytes, not digits", x.ring(), 3);
            Check.same("digits", Check.ring(x, '0', '1', '2'), -2);
            Check.same("letters", Check.ring(x, 'a', 'b', 'c'), -2);
            x.feed(0x00010200, 0, 0, 0, 0);
            x.end(2);
            Check.same("two of them", x.ring(), 3);
            x.feed(0x00010200, 0, 0, 0, 0);
            x.end(1);
            Check.same("one of them", x.ring(), -2);
            Check.same("none", x.ring(), -2);
        });
        Edge.test("Promise 27", "NONE: one does not give to the next; -2: not as told", () -> {
            ThirdHands x = Check.of(ROUND);
            Check.same("a ring", Check.ring(x, 0, 1, 2), 3);
            Check.same("a to c", Check.ring(x, 0, 2), -1);
            Check.same("c to b", Check.ring(x, 0, 2, 1), -1);
            Check.same("b to b", Check.ring(x, 1, 1), -2);
            int[][] wrong = {{}, {0}, {0, 3}, {3, 0}, {0, 1, 3}, {0, 255}, {128, 0}, {0, 1, 0}, {1, 0, 0}, {2, 1, 1, 0},
                {0, 1, 2, 3, 4, 5, 6, 7, 8}, {0, 1, 2, 0, 1, 2, 0, 1, 2, 0}};
            for (int[] people : wrong) {
                Check.same("not as told", Check.ring(x, people), -2);
            }
            // not as told, though one does not give to the next either
            Check.same("c to b, and twice", Check.ring(x, 2, 1, 2), -2);
            Check.same("a whole feed", x.feed(0x00010200, 0, 0, 0, 0), 20);
            Check.same("twenty bytes", x.ring(), -2);
            Check.same("nobody is there", Check.ring(new ThirdHands(), 0, 1), -2);
        });
    }

    private static void gain() {
        Edge.test("Promise 28", "GAIN of the i-th (as told) by the latest ring() that was 0 or above", () -> {
            ThirdHands x = Check.of(ROUND);
            // a: 1 of his own, 1 of c's; b: 2 of a's; c: 3 of his own, 9 of a's
            Check.ring(x, 2, 0, 1);
            Check.same("c", x.gain(0), 6);
            Check.same("a", x.gain(1), -2);
            Check.same("b", x.gain(2), -2);
            Check.ring(x, 0, 2);
            Check.ring(x, 0, 0);
            Check.lasts(x, 0, 1, 2);
            Check.same("c still", x.gain(0), 6);
            Check.village(x, "who a;who b;gives a b 0 0;gives b a 0 0;");
            Check.same("c still", x.gain(0), 6);
            Check.same("a ring of two", Check.ring(x, 0, 1), 0);
            Check.same("a", x.gain(0), 0);
            Check.refuses("no third one now", () -> x.gain(2));
        });
        Edge.test("Promise 28", "NoSuchElementException: there is none such, or ahead of any", () -> {
            ThirdHands x = Check.of(ROUND);
            Check.refuses("ahead of any", () -> x.gain(0));
            Check.ring(x, 0, 2);
            Check.refuses("ahead of any that is 0 or above", () -> x.gain(0));
            Check.ring(x, 0, 0);
            Check.refuses("ahead of any that is 0 or above", () -> x.gain(0));
            Check.lasts(x, 0, 1, 2);
            Check.refuses("lasts is no ring", () -> x.gain(0));
            Check.ring(x, 0, 1, 2);
            Check.same("the last one", x.gain(2), 6);
            Check.refuses("a fourth one", () -> x.gain(3));
            for (int wild : WILD) {
                Check.refuses("no such one", () -> x.gain(wild));
            }
        });
    }

    private static void lasts() {
        Edge.test("Promise 29", "those who are left when it HOLDS, as bits by numbers; NONE: it does not; -2: not as told", () -> {
            ThirdHands x = Check.of(ROUND + "makes b s 1 0;wants a s 90;wants b s 90;wants c s 1;");
            Check.same("all", Check.lasts(x, 0, 1, 2), 7);
            Check.same("as told from c", Check.lasts(x, 2, 0, 1), 7);
            Check.same("it does not", Check.lasts(Check.of(ROUND), 0, 1, 2), -1);
            Check.same("one does not give", Check.lasts(x, 0, 2), -1);
            // c leaves, bits by numbers of those left
            x = Check.of(ROUND.replace("wants c s 9;", "wants a s 9;wants b s 9;") + "makes b s 1 0;");
            Check.same("c leaves", Check.lasts(x, 2, 0, 1), 3);
            int[][] wrong = {{}, {0}, {0, 3}, {0, 1, 255}, {0, 1, 0}, {1, 1}, {0, 1, 2, 3, 4, 5, 6, 7, 8}};
            for (int[] people : wrong) {
                Check.same("not as told", Check.lasts(x, people), -2);
            }
            Check.same("nobody is there", Check.lasts(new ThirdHands(), 0, 1), -2);
        });
    }

    private static final String DISPUTE = "who a;who b;who c;sort s 9;law 2 any;makes a s 2 0;wants b s 5;wants c s 5;gives a b 1 0;"
        + "gives a c 9 0;gives b a 1 0;";

    private static void quarrel() {
        Edge.test("Promise 30", "MOST with a QUARREL of two; NONE: no such ones, or one", () -> {
            ThirdHands x = Check.of(DISPUTE);
            Check.same("a and b", x.quarrel(0, 1), 1);
            Check.same("b and a", x.quarrel(1, 0), 1);
            Check.same("b and c", x.quarrel(1, 2), 2);
            Check.same("a and a", x.quarrel(0, 0), -1);
            Check.same("no such one", x.quarrel(0, 3), -1);
            Check.same("no such one", x.quarrel(3, 0), -1);
            for (int wild : WILD) {
                Check.same("no such one", x.quarrel(0, wild), -1);
                Check.same("no such one", x.quarrel(wild, 0), -1);
                Check.same("no such ones", x.quarrel(wild, wild), -1);
            }
            Check.same("nobody is there", new ThirdHands().quarrel(0, 1), -1);
            Check.same("the givings stay", x.giving(0, 1, 0), 1);
            Check.same("MOST stays", x.most(), 2);
        });
        Edge.test("Promise 31", "with the latest quarrel() that was not NONE, as bits; NONE ahead of any", () -> {
            ThirdHands x = Check.of(DISPUTE);
            Check.same("ahead of any", x.starves(), -1);
            x.quarrel(1, 1);
            x.quarrel(0, 3);
            Check.same("ahead of any that is not NONE", x.starves(), -1);
            // c's want does not pay, so BEST does not meet it, though MOST could
            x.quarrel(1, 2);
            Check.same("c", x.starves(), 2);
            x.quarrel(0, 1);
            Check.same("both", x.starves(), 3);
            x.quarrel(0, 0);
            x.quarrel(3, 1);
            x.most();
            x.other(2, 0, 0);
            Check.same("both still", x.starves(), 3);
            x = Check.of("who a;who b;sort s 9;law 2 any;makes a s 1 0;wants b s 5;gives a b 1 0;who c;");
            x.quarrel(1, 2);
            Check.same("nobody", x.starves(), 0);
        });
    }

    private static void mend() {
        Edge.test("Promise 32", "10 times who gives, and to whom; NONE: none makes MOST greater", () -> {
            Check.same("nothing", new ThirdHands().mend(), -1);
            Check.same("no WANT", Check.of("who a;who b;sort s 9;makes a s 1 0;").mend(), -1);
            Check.same("all are met", Check.of(DISPUTE).mend(), -1);
            Check.same("no UNIT", Check.of("who a;who b;sort s 9;wants b s 1;law 2 any;").mend(), -1);
            Check.same("two givings lack", Check.of("who a;who b;who c;sort s 9;makes a s 1 0;wants c s 1;").mend(), -1);
            Check.same("the last one lacks", Check.of("who a;who b;who c;sort s 9;makes a s 1 0;wants c s 1;gives a b 1 0;").mend(), 12);
            Check.same("the first one lacks", Check.of("who a;who b;who c;sort s 9;makes a s 1 0;wants c s 1;gives b c 1 0;").mend(), 1);
            Check.same("c to a", Check.of("who a;who b;who c;sort s 9;makes c s 1 0;wants a s 1;law 2 any;").mend(), 20);
            // it is asked, not told
            ThirdHands x = Check.of("who a;who b;who c;sort s 9;makes a s 1 0;wants c s 1;gives a b 1 0;");
            x.mend();
            Check.same("no giving", x.giving(1, 2, 0), -1);
            Check.same("no WANT is met", x.most(), 0);
            Check.same("the same again", x.mend(), 12);
        });
    }

    private static void liveAndStop() {
        Edge.test("Promise 33", "LIVE, as bits; 0: no set can", () -> {
            Check.same("nothing", new ThirdHands().live(), 0);
            Check.same("no WANT", Check.of("who a;sort s 9;makes a s 1 0;").live(), 0);
            Check.same("a WANT that cannot be met", Check.of("who a;sort s 9;makes a s 1 0;wants a s 1;").live(), 0);
            Check.same("b and a", Check.of(DISPUTE).live(), 3);
            Check.same("all eight", Check.of("who a;who b;who c;who d;who e;who f;who g;who h;sort s 9;makes a with b s 1 0;"
                + "makes c with d s 1 0;makes e with f s 1 0;wants g s 1;wants g s 1;wants g s 1;gives a h 1 0;gives c h 1 0;"
                + "gives e h 1 0;gives h g 1 0;").live(), 255);
            Check.same("himself twice", Check.of("who a;who b;sort s 9;makes a s 1 0;wants a s 1;gives a b 0 0;gives b a 0 0;").live(), 3);
        });
        Edge.test("Promise 34", "STOP, as bits (0: no WANT can be met as it is)", () -> {
            Check.same("nothing", new ThirdHands().stop(), 0);
            Check.same("a WANT that cannot be met", Check.of("who a;sort s 9;makes a s 1 0;wants a s 1;").stop(), 0);
            Check.same("the maker", Check.of(DISPUTE).stop(), 1);
            Check.same("the last of eight", Check.of("who a;who b;who c;who d;who e;who f;who g;who h;sort s 9;law 2 any;makes h s 1 0;"
                + "wants a s 1;gives h a 1 0;").stop(), 128);
            // each of seven makes one: all must stop
            Check.same("seven", Check.of("who a;who b;who c;who d;who e;who f;who g;who h;sort s 9;law 2 any;wants h s 1;makes a s 1 0;"
                + "makes b s 1 0;makes c s 1 0;makes d s 1 0;makes e s 1 0;makes f s 1 0;makes g s 1 0;gives a h 1 0;gives b h 1 0;"
                + "gives c h 1 0;gives d h 1 0;gives e h 1 0;gives f h 1 0;gives g h 1 0;").stop(), 127);
            // it is asked, not told
            ThirdHands x = Check.of(DISPUTE);
            x.stop();
            Check.same("MOST stays", x.most(), 2);
        });
    }

    private static void other() {
        Edge.test("Promise 35", "By the law of n (2 to 6) and BACK (0 any, 1 first, 2 once, 3 towns): MOST (what 0), the sum of BEST (1), its PAINS (2)", () -> {
            // to b by 2, 4, 6 hands; to a by 3, 5
            ThirdHands x = Check.of("who a;who b of 1 asks 1;sort s 48;makes a s 2 0;wants b s 20;wants a s 30;gives a b 2 0;gives b a 3 0;");
            int[][] any = {{1, 18, 2}, {1, 24, 5}, {1, 12, 7}, {1, 18, 10}, {1, 6, 12}};
            for (int n = 2; n <= 6; n++) {
                for (int what = 0; what < 3; what++) {
                    Check.same("law " + n + " any, " + what, x.other(n, 0, what), any[n - 2][what]);
                }
            }
            int[] back = {1, 1, 0, 0};
            for (int k = 0; k < 4; k++) {
                Check.same("law 3, BACK " + k, x.other(3, k, 0), back[k]);
                Check.same("law 2, BACK " + k, x.other(2, k, 0), 1);
            }
            Check.same("law 4 first", x.other(4, 1, 0), 0);
            Check.same("the law stays", x.best(0), 24);
            Check.same("N stays", x.count(4), 3);
            Check.same("BACK stays", x.count(5), 1);
        });
        Edge.test("Promise 35", "NONE: not as told", () -> {
            ThirdHands x = Check.of(DISPUTE);
            Check.same("law 1", x.other(1, 0, 0), -1);
            Check.same("law 7", x.other(7, 0, 0), -1);
            Check.same("law 0", x.other(0, 0, 0), -1);
            Check.same("BACK 4", x.other(2, 4, 0), -1);
            Check.same("what 3", x.other(2, 0, 3), -1);
            for (int wild : WILD) {
                Check.same("law " + wild, x.other(wild, 0, 0), -1);
                Check.same("BACK " + wild, x.other(2, wild, 0), -1);
                Check.same("what " + wild, x.other(2, 0, wild), -1);
            }
            for (int what = 0; what < 3; what++) {
                Check.same("of nothing", new ThirdHands().other(6, 3, what), 0);
            }
        });
    }

    private static void note() {
        Edge.test("Promise 36", "A note more in the BOOK: its number", () -> {
            ThirdHands x = Check.of(TOWN);
            for (int k = 0; k < 8; k++) {
                Check.same("number", x.note(k % 3, 0, 1, 5), k);
                Check.same("notes", x.count(7), k + 1);
            }
        });
        Edge.test("Promise 36", "NONE: there are 40, 8 of that UNIT, or not as told", () -> {
            ThirdHands x = Check.of(TOWN.replace("makes a s 2 1", "makes a s 9 1"));
            for (int k = 0; k < 8; k++) {
                Check.same("note", x.note(3, 0, 1, 5), k);
            }
            Check.same("a ninth of that UNIT", x.note(3, 0, 1, 5), -1);
            Check.same("still eight", x.count(7), 8);
            ThirdHands z = Check.of(TOWN);
            for (int k = 0; k < 8; k++) {
                z.note(0, 0, 1, 5);
                z.note(1, 0, 1, 5);
            }
            Check.same("a ninth of the one", z.note(0, 0, 1, 5), -1);
            Check.same("a ninth of the other", z.note(1, 0, 1, 5), -1);
            Check.same("the first of a third", z.note(2, 0, 1, 5), 16);
            Check.same("of another one", x.note(4, 0, 1, 5), 8);
            for (int k = 9; k < 40; k++) {
                Check.same("note", x.note(5 + (k - 9) / 8, 0, 1, 5), k);
            }
            Check.same("a 41st", x.note(9, 0, 1, 5), -1);
            Check.same("forty", x.count(7), 40);
            ThirdHands y = Check.of(TOWN);
            Check.same("no unit", y.note(3, 0, 1, 5), -1);
            Check.same("nobody", y.note(0, 3, 1, 5), -1);
            Check.same("to nobody", y.note(0, 0, 3, 5), -1);
            Check.same("to himself", y.note(0, 2, 2, 5), -1);
            Check.same("hour 48", y.note(0, 0, 1, 48), -1);
            for (int wild : WILD) {
                Check.same("no unit", y.note(wild, 0, 1, 5), -1);
                Check.same("nobody", y.note(0, wild, 1, 5), -1);
                Check.same("to nobody", y.note(0, 0, wild, 5), -1);
                Check.same("no hour", y.note(0, 0, 1, wild), -1);
            }
            Check.same("none came", y.count(7), 0);
            Check.same("hour 47", y.note(2, 2, 0, 47), 0);
            Check.same("hour 0", y.note(0, 2, 1, 0), 1);
            Check.same("nothing", new ThirdHands().note(0, 0, 1, 5), -1);
        });
    }

    private static void lies() {
        Edge.test("Promise 37", "LIES (what 0), FOUND as bits (1), HOLDER (2)", () -> {
            ThirdHands x = Check.of(TOWN);
            x.note(0, 0, 1, 5);
            x.note(0, 0, 2, 6);
            x.note(0, 1, 2, 7);
            Check.same("LIES", x.lies(0, 0), 1);
            Check.same("FOUND", x.lies(0, 1), 2);
            Check.same("HOLDER", x.lies(0, 2), 2);
            Check.same("no notes: LIES", x.lies(2, 0), 0);
            Check.same("no notes: FOUND", x.lies(2, 1), 0);
            Check.same("no notes: HOLDER", x.lies(2, 2), 1);
        });
        Edge.test("Promise 37", "NONE: no such ones", () -> {
            ThirdHands x = Check.of(TOWN);
            Check.same("no unit", x.lies(3, 0), -1);
            Check.same("what 3", x.lies(0, 3), -1);
            for (int wild : WILD) {
                Check.same("no unit", x.lies(wild, 0), -1);
                Check.same("another what", x.lies(0, wild), -1);
            }
            for (int what = 0; what < 3; what++) {
                Check.same("nothing", new ThirdHands().lies(0, what), -1);
            }
        });
    }

    private static void image() {
        Edge.test("Promise 38", "are kept in place k (0, 1): true; false: no such one", () -> {
            ThirdHands x = Check.of(TOWN);
            Check.same("place 2", x.image(2), false);
            for (int wild : WILD) {
                Check.same("place " + wild, x.image(wild), false);
            }
            Check.same("nothing is kept", x.restore(0) || x.restore(1), false);
            Check.same("place 0", x.image(0), true);
            Check.same("nothing in 1", x.restore(1), false);
            Check.same("place 1", x.image(1), true);
            Check.same("place 0 again", x.image(0), true);
            Check.same("of nothing", new ThirdHands().image(1), true);
        });
        Edge.test("Promise 38", "VILLAGE, PLAN and BOOK are kept", () -> {
            ThirdHands x = Check.of(TOWN);
            Check.plan(x, "wait 7;give 2 a;");
            x.note(0, 0, 1, 5);
            x.image(1);
            // what comes behind is not kept
            Check.plan(x, "wait 8;");
            x.note(0, 1, 2, 6);
            x.image(0);
            Check.village(x, "who z;");
            x.restore(1);
            Check.same("acts", x.count(6), 2);
            Check.same("the first", x.act(0, 1), 7);
            Check.same("whom", x.act(1, 2), 0);
            Check.same("notes", x.count(7), 1);
            Check.same("HOLDER", x.lies(0, 2), 1);
            x.restore(0);
            Check.same("acts", x.count(6), 1);
            Check.same("HOLDER", x.lies(0, 2), 2);
            // a place has the latest alone
            Check.village(x, "who z;");
            x.image(1);
            x.restore(0);
            x.restore(1);
            Check.same("people", x.count(0), 1);
        });
    }

    private static void restore() {
        Edge.test("Promise 39", "They are as kept in place k", () -> {
            ThirdHands x = Check.of(TOWN + "law 4 any;");
            x.image(0);
            Check.village(x, "who z;who y;who x;who w;sort v 1;makes z v 9 9;wants y v 1;gives z y 9 9;gives y z 9 9;gives x y 9 9;law 6 towns;");
            x.restore(0);
            int[] due = {3, 2, 3, 2, 4, 0, 0, 0, 0};
            for (int k = 0; k < due.length; k++) {
                Check.same("count " + k, x.count(k), due[k]);
            }
            int[][] units = {{0, 0, -1, 1, 10}, {0, 0, -1, 1, 10}, {1, 1, 2, 4, 13}};
            for (int u = 0; u < 3; u++) {
                for (int k = 0; k < 5; k++) {
                    Check.same("unit " + u + " " + k, x.unit(u, k), units[u][k]);
                }
            }
            Check.same("by", x.want(1, 3), 20);
            Check.same("a giving", x.giving(0, 1, 1), 2);
            Check.same("no giving", x.giving(2, 1, 0), -1);
            Check.same("a name", Check.plan(x, "give 0 c;"), 1);
            Check.same("no name", Check.plan(x, "give 0 z;"), -8);
            x.restore(0);
            Check.same("the second time", x.count(6), 0);
            // what was asked of the other VILLAGE is asked anew
            x.image(0);
            int best = x.best(0);
            Check.village(x, "who a;who b;sort v 1;makes a v 1 9;wants b v 50;gives a b 9 0;law 2 any;");
            Check.same("best there", x.best(0), 41);
            x.image(1);
            x.restore(0);
            Check.same("best here", x.best(0), best);
            x.restore(1);
            Check.same("best there", x.best(0), 41);
            Check.same("most there", x.most(), 1);
            // a BOOK under other notes
            Check.village(x, TOWN);
            x.note(0, 0, 1, 5);
            x.note(0, 2, 1, 7);
            x.note(0, 1, 2, 6);
            x.image(0);
            Check.village(x, TOWN);
            x.note(1, 1, 0, 9);
            x.note(2, 0, 2, 0);
            x.note(2, 0, 2, 0);
            x.restore(0);
            Check.same("LIES", x.lies(0, 0), 0);
            Check.same("HOLDER", x.lies(0, 2), 1);
            Check.same("no notes", x.lies(2, 0), 0);
            Check.same("the next note", x.note(0, 0, 2, 8), 3);
            // of a new object's empty VILLAGE
            x = new ThirdHands();
            x.image(1);
            Check.village(x, TOWN);
            x.restore(1);
            Check.same("people", x.count(0), 0);
            Check.same("N", x.count(4), 3);
            Check.same("BACK", x.count(5), 1);
        });
        Edge.test("Promise 39", "(the tape, and what other calls told last, stays)", () -> {
            ThirdHands x = Check.of("who a;who b;gives a b 0 0;gives b a 0 0;");
            x.image(0);
            Check.village(x, TOWN);
            Check.plan(x, "wait 1;give 0 b;use 2;");
            x.judge();
            x.way(0, 0, 0);
            x.rest();
            x.middle(1);
            x.quarrel(0, 1);
            Check.ring(x, 0, 1);
            Check.plan(x, "use 9;");
            Check.feed(x, "123456789");
            int rest = x.restOf(1);
            int gets = x.middleBy();
            x.restore(0);
            Check.same("the tape", x.count(8), 9);
            Check.same("the fault", x.fault(), 2);
            Check.same("the hand", x.hand(2), 2);
            Check.same("why", x.judged(0), 1);
            Check.same("who has it", x.holds(0, 0), 1);
            Check.same("rest", x.restOf(1), rest);
            Check.same("a third one rests", x.restOf(2), 0);
            Check.same("gets", x.middleBy(), gets);
            Check.same("starves", x.starves(), 3);
            Check.same("gain", x.gain(1), 0);
        });
        Edge.test("Promise 39", "true; false: no such one, or nothing is kept there", () -> {
            ThirdHands x = Check.of(TOWN);
            Check.same("nothing in 0", x.restore(0), false);
            Check.same("nothing in 1", x.restore(1), false);
            x.image(1);
            Check.same("nothing in 0", x.restore(0), false);
            Check.same("kept in 1", x.restore(1), true);
            Check.same("and again", x.restore(1), true);
            Check.same("place 2", x.restore(2), false);
            for (int wild : WILD) {
                Check.same("place " + wild, x.restore(wild), false);
            }
            Check.same("units stay", x.count(2), 3);
        });
    }

    private static void count() {
        Edge.test("Promise 40", "0 PEOPLE, 1 SORTS, 2 UNITS, 3 WANTS, 4 N of the law, 5 BACK (0 any, 1 first, 2 once, 3 towns), 6 ACTS, 7 notes, 8 bytes of the tape", () -> {
            ThirdHands x = Check.of(TOWN + "who d;wants d s 1;wants d s 1;makes a s 3 0;law 5 once;");
            Check.plan(x, "wait 1;".repeat(7));
            for (int k = 0; k < 8; k++) {
                x.note(4, 0, 1, 5);
            }
            Check.feed(x, "123456789");
            int[] due = {4, 2, 6, 4, 5, 2, 7, 8, 9};
            for (int k = 0; k < due.length; k++) {
                Check.same("count " + k, x.count(k), due[k]);
            }
        });
        Edge.test("Promise 40", "NONE for another what", () -> {
            ThirdHands x = Check.of(TOWN);
            Check.same("what 9", x.count(9), -1);
            for (int wild : WILD) {
                Check.same("what " + wild, x.count(wild), -1);
            }
        });
    }
}
