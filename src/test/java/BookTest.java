/** Promises 36 to 39: notes of which some are lies, and images. */
public final class BookTest {
    private static final String TOWN = "who a;who b;who c;who d;sort s 9;makes a s 1 5;makes d with b s 1 0;"
        + "makes c s 7 0;";

    private BookTest() {
    }

    public static void main(String[] args) {
        notes();
        full();
        truths();
        orders();
        ties();
        images();
        imagesOfAll();
        imagesOfBooks();
        newVillage();
        Check.finish("books and images");
    }

    private static void lies(ThirdHands x, int u, int lies, int found, int holder) {
        Check.same("lies", x.lies(u, 0), lies);
        Check.same("found", x.lies(u, 1), found);
        Check.same("holder", x.lies(u, 2), holder);
    }

    private static void notes() {
        ThirdHands x = Check.of(TOWN);
        int[][] wrong = {{-1, 0, 1, 0}, {9, 0, 1, 0}, {0, -1, 1, 0}, {0, 4, 1, 0}, {0, 0, -1, 0}, {0, 0, 4, 0},
            {0, 1, 1, 0}, {0, 0, 1, -1}, {0, 0, 1, 48}};
        for (int[] note : wrong) {
            Check.same("not as told", x.note(note[0], note[1], note[2], note[3]), -1);
        }
        Check.same("notes", x.count(7), 0);
        Check.same("note", x.note(0, 0, 1, 0), 0);
        Check.same("note", x.note(8, 3, 2, 47), 1);
        Check.same("notes", x.count(7), 2);
        Check.same("no unit", x.lies(9, 0), -1);
        Check.same("no unit", x.lies(-1, 0), -1);
        Check.same("another what", x.lies(0, 3), -1);
        Check.same("another what", x.lies(0, -1), -1);
        Check.same("without units", new ThirdHands().lies(0, 0), -1);
    }

    private static void full() {
        ThirdHands x = Check.of(TOWN);
        for (int k = 0; k < 8; k++) {
            Check.same("note", x.note(3, 2, 0, 0), k);
        }
        Check.same("a ninth of the unit", x.note(3, 2, 0, 0), -1);
        for (int k = 8; k < 40; k++) {
            Check.same("note", x.note(4 + k % 5, 2, 0, 0), k);
        }
        Check.same("a 41st", x.note(0, 0, 1, 5), -1);
        Check.same("notes", x.count(7), 40);
        // all eight go from c: one may stay, the last of like ones is 128, the first kept is bit 7
        lies(x, 3, 7, 127, 0);
    }

    private static void truths() {
        ThirdHands x = Check.of(TOWN);
        lies(x, 0, 0, 0, 0);
        lies(x, 1, 0, 0, 3);
        x.note(0, 0, 1, 5);
        lies(x, 0, 0, 0, 1);
        x.note(0, 1, 2, 5);
        lies(x, 0, 0, 0, 2);
        // from whom has it not
        x.note(0, 1, 3, 6);
        lies(x, 0, 1, 2, 3);
        // ahead of the unit's hour
        ThirdHands y = Check.of(TOWN);
        y.note(0, 0, 1, 4);
        lies(y, 0, 1, 1, 0);
        y.note(0, 0, 1, 5);
        lies(y, 0, 1, 1, 1);
        // both firsts may begin, another one may not
        ThirdHands z = Check.of(TOWN);
        z.note(1, 1, 0, 0);
        lies(z, 1, 0, 0, 0);
        z.note(1, 3, 1, 0);
        lies(z, 1, 1, 1, 1);
        ThirdHands t = Check.of(TOWN);
        t.note(1, 2, 0, 0);
        lies(t, 1, 1, 1, 3);
    }

    private static void orders() {
        ThirdHands x = Check.of(TOWN);
        x.note(0, 2, 3, 9);
        x.note(1, 3, 2, 0);
        x.note(0, 0, 1, 7);
        x.note(0, 1, 2, 8);
        lies(x, 0, 0, 0, 3);
        // of the unit's notes the second as told
        x.note(0, 3, 2, 8);
        lies(x, 0, 1, 8, 3);
        lies(x, 1, 0, 0, 2);
        // of like hours as told: a to b, then b to a; the other way round one is a lie
        ThirdHands y = Check.of(TOWN);
        y.note(0, 1, 0, 7);
        y.note(0, 0, 1, 7);
        lies(y, 0, 1, 1, 1);
    }

    private static void ties() {
        ThirdHands x = Check.of(TOWN);
        // either one alone is true: without the first one
        x.note(0, 0, 1, 8);
        x.note(0, 0, 2, 7);
        lies(x, 0, 1, 1, 2);
        // two lies at the least: 1 and 2, or 4 and 8
        ThirdHands y = Check.of(TOWN);
        y.note(0, 0, 1, 6);
        y.note(0, 1, 2, 7);
        y.note(0, 0, 2, 8);
        y.note(0, 2, 3, 9);
        // without 4: a b, b c, c d
        lies(y, 0, 1, 4, 3);
        y.note(0, 3, 0, 10);
        y.note(0, 1, 0, 11);
        lies(y, 0, 2, 36, 0);
    }

    private static void images() {
        ThirdHands x = Check.of(TOWN);
        Check.same("restore of nothing", x.restore(0), false);
        Check.same("restore of nothing", x.restore(1), false);
        Check.same("no such place", x.image(2), false);
        Check.same("no such place", x.image(-1), false);
        Check.same("no such place", x.restore(2), false);
        Check.same("no such place", x.restore(-1), false);
        Check.same("image", x.image(0), true);
        Check.same("restore of the other place", x.restore(1), false);
        Check.village(x, "who z;");
        Check.same("image", x.image(1), true);
        Check.same("people", x.count(0), 1);
        Check.same("restore", x.restore(0), true);
        Check.same("people", x.count(0), 4);
        Check.same("units", x.count(2), 9);
        Check.same("restore", x.restore(1), true);
        Check.same("people", x.count(0), 1);
        Check.same("units", x.count(2), 0);
        Check.same("restore again", x.restore(0), true);
        Check.same("people", x.count(0), 4);
        Check.same("image anew", x.image(1), true);
        Check.village(x, "");
        x.restore(1);
        Check.same("people", x.count(0), 4);
    }

    private static void imagesOfAll() {
        String town = "who a asks 3;who b;who c of 2;sort s 9;makes a s 2 0;wants c s 8;wants b s 7;gives a b 1 0;"
            + "gives b c 2 1;gives c b 1 1;law 3 first;";
        ThirdHands x = Check.of(town);
        Check.plan(x, "give 0 b;wait 3;");
        x.note(0, 0, 1, 4);
        x.image(0);
        int best = x.best(0);
        int lines = Check.village(x, "who b;who a;sort t 3;makes a t 1 1;wants b t 5;gives a b 0 0;law 2 any;");
        Check.same("lines", lines, 7);
        Check.same("best of the other village", x.best(0), 5);
        x.way(0, 0, 0);
        x.judge();
        x.quarrel(0, 1);
        Check.plan(x, "wait 0;");
        Check.feed(x, "12345");
        Check.same("restore", x.restore(0), true);
        Check.same("the tape stays", x.count(8), 5);
        Check.same("the fault stays", x.fault(), 2);
        Check.same("the hand told stays", x.hand(1), 0);
        Check.same("holds of the other village", x.holds(0, 0), 1);
        Check.same("one unit there", x.holds(1, 0), -1);
        Check.same("starves stays", x.starves(), 1);
        Check.same("best", x.best(0), best);
        int[] due = {3, 1, 2, 2, 3, 1, 2, 1, 5};
        for (int k = 0; k < due.length; k++) {
            Check.same("count " + k, x.count(k), due[k]);
        }
        Check.same("act", x.act(0, 2), 1);
        Check.same("act", x.act(1, 1), 3);
        Check.same("holder", x.lies(0, 2), 1);
        Check.same("giving", x.giving(1, 2, 0), 2);
        Check.same("giving", x.giving(0, 2, 0), -1);
        Check.same("a name of the village", Check.plan(x, "give 1 c;"), 1);
        // what is kept does not change with what goes on
        x.note(0, 1, 2, 5);
        Check.same("restore", x.restore(0), true);
        Check.same("notes", x.count(7), 1);
        Check.same("acts", x.count(6), 2);
    }

    private static void imagesOfBooks() {
        ThirdHands x = Check.of(TOWN);
        x.note(0, 0, 1, 5);
        x.note(0, 2, 3, 7);
        x.note(0, 1, 2, 6);
        x.note(1, 3, 0, 6);
        x.image(0);
        Check.village(x, TOWN);
        x.image(1);
        for (int k = 0; k < 4; k++) {
            x.note(2 + k, 1, 3, 9);
        }
        x.restore(0);
        lies(x, 0, 0, 0, 3);
        lies(x, 1, 0, 0, 0);
        lies(x, 2, 0, 0, 2);
        Check.same("the next note", x.note(2, 2, 1, 0), 4);
        x.restore(1);
        Check.same("no notes", x.count(7), 0);
        lies(x, 0, 0, 0, 0);
    }

    private static void newVillage() {
        ThirdHands x = Check.of(TOWN);
        Check.plan(x, "wait 1;");
        x.note(0, 0, 1, 5);
        Check.village(x, "who a;who a;");
        Check.same("the plan stays with a fault", x.count(6), 1);
        Check.same("the book stays with a fault", x.count(7), 1);
        Check.village(x, TOWN);
        Check.same("no plan", x.count(6), 0);
        Check.same("an empty book", x.count(7), 0);
        Check.same("a note in it", x.note(0, 0, 1, 5), 0);
    }
}
