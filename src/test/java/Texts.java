/** Villages and plans with a mark: a stroke that the text has not, at the place of its fault. */
final class Texts {
    private Texts() {
    }

    static void good(String text, int lines) {
        ThirdHands x = new ThirdHands();
        Check.same("village of " + text, Check.village(x, text), lines);
        Check.same("fault of " + text, x.fault(), 0);
        Check.same("the tape is empty behind " + text, x.count(8), 0);
    }

    static void faulty(String text, int place, int kind) {
        ThirdHands x = Check.of("who z;");
        Check.same("village of " + text, Check.village(x, text), -1 - place);
        Check.same("fault of " + text, x.fault(), kind);
        Check.same("the village stays with " + text, x.count(0), 1);
        Check.same("the tape is empty behind " + text, x.count(8), 0);
    }

    static void marked(String text, int kind) {
        faulty(unmarked(text), text.indexOf('|'), kind);
    }

    static void goodPlan(ThirdHands x, String text, int acts) {
        Check.same("plan of " + text, Check.plan(x, text), acts);
        Check.same("fault of " + text, x.fault(), 0);
        Check.same("acts of " + text, x.count(6), acts);
        Check.same("the tape is empty behind " + text, x.count(8), 0);
    }

    static void markedPlan(ThirdHands x, String text, int kind) {
        int acts = x.count(6);
        String plain = unmarked(text);
        Check.same("plan of " + plain, Check.plan(x, plain), -1 - text.indexOf('|'));
        Check.same("fault of " + plain, x.fault(), kind);
        Check.same("the plan stays with " + plain, x.count(6), acts);
        Check.same("the tape is empty behind " + plain, x.count(8), 0);
    }

    private static String unmarked(String text) {
        int place = text.indexOf('|');
        return text.substring(0, place) + text.substring(place + 1);
    }

    static String blanks(int n) {
        return " ".repeat(n);
    }
}
