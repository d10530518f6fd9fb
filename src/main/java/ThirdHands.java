import java.util.Arrays;
import java.util.NoSuchElementException;

/** A village in which a thing may be used by whoever has it third alone (or as its law says). */
public final class ThirdHands {
    public static final int NONE = -1;

    private static final int NOT_TOLD = -2;
    private static final int TAPE = 1040;
    private static final int FED = 20;
    private static final int VILLAGE_BYTES = 1000;
    private static final int PLAN_BYTES = 500;
    private static final int PEOPLE = 8;
    private static final int SORTS = 6;
    private static final int UNITS = 16;
    private static final int WANTS = 8;
    private static final int HANDS = 6;
    private static final int HOURS = 48;
    private static final int ACTS = 50;
    private static final int NOTES = 40;
    private static final int UNIT_NOTES = 8;
    private static final int ROUNDS = 6;
    private static final int MOST_ASKED = 20;

    private static final int ANY = 0;
    private static final int FIRST = 1;
    private static final int ONCE = 2;
    private static final int TOWNS = 3;

    private static final int GIVE = 0;
    private static final int USE = 1;
    private static final int WAIT = 2;

    private final int[] tape = new int[TAPE];
    private int bytes;
    private int fault;
    private final Tokens tokens = new Tokens(tape);
    private final Village village = new Village();
    private final Village draft = new Village();
    private final Plan plan = new Plan();
    private final Plan planDraft = new Plan();
    private final Book book = new Book();
    private final Image[] images = {new Image(), new Image()};
    private final Meeting told = new Meeting(new Ways(new Terms(village)));
    private final Meeting trial = new Meeting(new Ways(new Terms(village)));
    private boolean stale = true;
    private final Day day = new Day();
    private final Ring ringNow = new Ring(village);
    private final Told last = new Told();

    public ThirdHands() {
    }

    public int feed(int a, int b, int c, int d, int e) {
        if (bytes + FED > TAPE) {
            return NONE;
        }
        feedNumber(a);
        feedNumber(b);
        feedNumber(c);
        feedNumber(d);
        feedNumber(e);
        return bytes;
    }

    private void feedNumber(int number) {
        for (int shift = 24; shift >= 0 && bytes < TAPE; shift -= 8) {
            tape[bytes] = (number >>> shift) & 255;
            bytes++;
        }
    }

    public boolean end(int n) {
        if (n < 0 || n > bytes) {
            return false;
        }
        bytes = n;
        return true;
    }

    private int takeTape() {
        int taken = bytes;
        bytes = 0;
        return taken;
    }

    public int village() {
        tokens.start(takeTape(), VILLAGE_BYTES);
        int lines = draft.read(tokens);
        fault = tokens.fault;
        if (lines >= 0) {
            village.copy(draft);
            plan.acts = 0;
            book.notes = 0;
            stale = true;
        }
        return lines;
    }

    public int fault() {
        return fault;
    }

    public int unit(int u, int what) throws NoSuchElementException {
        if (!village.hasUnit(u) || what < 0 || what >= Village.UNIT_WIDTH) {
            throw new NoSuchElementException();
        }
        return village.unit[u * Village.UNIT_WIDTH + what];
    }

    public int want(int w, int what) throws NoSuchElementException {
        if (!village.hasWant(w) || what < 0 || what >= Village.WANT_WIDTH) {
            throw new NoSuchElementException();
        }
        return village.want[w * Village.WANT_WIDTH + what];
    }

    public int giving(int a, int b, int what) {
        if (!village.hasPerson(a) || !village.hasPerson(b) || what < 0 || what > 1) {
            return NONE;
        }
        int pair = a * PEOPLE + b;
        if (village.pains[pair] == NONE) {
            return NONE;
        }
        return what == 0 ? village.pains[pair] : village.hours[pair];
    }

    /** The questions of the VILLAGE as it is told share one reckoning, till it changes. */
    private Meeting asTold() {
        if (stale) {
            told.ways.terms.reset();
            told.weigh();
            stale = false;
        }
        return told;
    }

    private Meeting supposing() {
        trial.ways.terms.reset();
        return trial;
    }

    public int way(int u, int w, int what) {
        if (!village.hasUnit(u) || !village.hasWant(w) || what < 0 || what > 2) {
            return NONE;
        }
        Meeting now = asTold();
        long key = now.taken(u, w);
        if (key == Ways.NO_WAY) {
            return NONE;
        }
        last.keepWay(Ways.path(key), village.n);
        if (what == 0) {
            return Ways.cost(key);
        }
        return what == 1 ? Ways.hours(key) : now.ways.pains(key);
    }

    public int hand(int k) {
        return k < 0 || k >= last.hands ? NONE : last.hand[k];
    }

    public int most() {
        return asTold().matched();
    }

    public int bars() {
        return asTold().barring();
    }

    public int best(int what) {
        Meeting now = asTold();
        switch (what) {
            case 0:
                return now.sum();
            case 1:
                return now.metCount();
            case 2:
                return now.painsMet();
            default:
                return NONE;
        }
    }

    public int bestOf(int w) {
        return village.hasWant(w) ? asTold().unitFor(w) : NONE;
    }

    public int plan() {
        tokens.start(takeTape(), PLAN_BYTES);
        int acts = planDraft.read(tokens, village);
        fault = tokens.fault;
        if (acts >= 0) {
            plan.copy(planDraft);
        }
        return acts;
    }

    public int drawn(int m, int seed) {
        if (m < 1 || m > ACTS || village.units == 0) {
            return NONE;
        }
        plan.draw(m, seed, village);
        return m;
    }

    public int act(int i, int what) throws NoSuchElementException {
        if (i < 0 || i >= plan.acts || what < 0 || what > 2) {
            throw new NoSuchElementException();
        }
        if (what == 0) {
            return plan.what[i];
        }
        return what == 1 ? plan.unit[i] : plan.whom[i];
    }

    public int judge() {
        return day.go(village, plan);
    }

    public int judged(int what) {
        if (!day.done) {
            return NONE;
        }
        switch (what) {
            case 0:
                return day.why;
            case 1:
                return day.hour;
            case 2:
                return day.met;
            case 3:
                return day.pains;
            case 4:
                return day.spoilt;
            default:
                return NONE;
        }
    }

    public int holds(int u, int what) {
        if (!day.done || u < 0 || u >= day.units) {
            return NONE;
        }
        switch (what) {
            case 0:
                return day.who[u];
            case 1:
                return day.nth[u];
            case 2:
                return (day.usable >> u) & 1;
            default:
                return NONE;
        }
    }

    public int ways(int u, int w, int h) {
        if (!village.hasUnit(u) || !village.hasWant(w) || h < 2 || h > HANDS) {
            return NONE;
        }
        Ways now = supposing().ways;
        now.terms.n = h;
        now.walkUnit(u);
        return now.counts[w];
    }

    public int latest(int u, int w) {
        if (!village.hasUnit(u) || !village.hasWant(w)) {
            return NONE;
        }
        Ways now = supposing().ways;
        now.walkUnit(u);
        if (now.counts[w] == 0) {
            return NONE;
        }
        return village.ofUnit(u, Village.HOUR) + now.rooms[w] - now.least[w];
    }

    public int rest() {
        Meeting now = supposing();
        int rounds = NONE;
        for (int round = 1; round <= ROUNDS && rounds == NONE; round++) {
            if (!askAnew(now)) {
                rounds = round;
            }
        }
        last.keepAsks(now.ways.terms.asks, village.people);
        return rounds;
    }

    private boolean askAnew(Meeting now) {
        boolean changed = false;
        int[] asks = now.ways.terms.asks;
        for (int who = 0; who < village.people; who++) {
            if (village.asks[who] > 0) {
                int ask = now.middleAsk(who);
                changed = changed || ask != asks[who];
                asks[who] = ask;
            }
        }
        return changed;
    }

    public int restOf(int who) {
        return who < 0 || who >= last.askers ? NONE : last.asks[who];
    }

    public int middle(int who) {
        if (!village.hasPerson(who)) {
            return NONE;
        }
        Meeting now = supposing();
        int ask = now.middleAsk(who);
        last.middleGets = now.gets;
        return ask;
    }

    public int middleBy() {
        return last.middleGets;
    }

    public int ring() {
        if (!ringNow.take(tape, takeTape())) {
            return NOT_TOLD;
        }
        if (!ringNow.closes()) {
            return NONE;
        }
        ringNow.reckon();
        last.keepGains(ringNow.gains, ringNow.size);
        return ringNow.losers();
    }

    public int gain(int i) throws NoSuchElementException {
        if (i < 0 || i >= last.gainers) {
            throw new NoSuchElementException();
        }
        return last.gains[i];
    }

    public int lasts() {
        if (!ringNow.take(tape, takeTape())) {
            return NOT_TOLD;
        }
        for (int days = 0; days <= PEOPLE; days++) {
            if (ringNow.size < 2 || !ringNow.closes()) {
                return NONE;
            }
            ringNow.reckon();
            int losers = ringNow.losers();
            if (losers == 0) {
                return ringNow.members();
            }
            ringNow.leave(losers);
        }
        return NONE;
    }

    public int quarrel(int a, int b) {
        if (!village.hasPerson(a) || !village.hasPerson(b) || a == b) {
            return NONE;
        }
        Meeting now = supposing();
        now.ways.terms.pains[a * PEOPLE + b] = NONE;
        now.ways.terms.pains[b * PEOPLE + a] = NONE;
        now.weigh();
        last.starving = village.allWants() & ~now.metWants();
        return now.matched();
    }

    public int starves() {
        return last.starving;
    }

    public int mend() {
        int greatest = asTold().matched();
        int found = NONE;
        Meeting now = supposing();
        for (int a = 0; a < village.people && greatest < village.wants; a++) {
            for (int b = 0; b < village.people; b++) {
                int met = a == b ? NONE : mendedMost(now, a * PEOPLE + b);
                if (met > greatest) {
                    greatest = met;
                    found = 10 * a + b;
                }
            }
        }
        return found;
    }

    /** MOST with one giving more; NONE if that one is told. */
    private int mendedMost(Meeting now, int pair) {
        Terms terms = now.ways.terms;
        if (terms.pains[pair] != NONE) {
            return NONE;
        }
        terms.pains[pair] = 0;
        terms.hours[pair] = 1;
        now.find();
        terms.pains[pair] = NONE;
        return now.matched();
    }

    public int live() {
        Meeting now = supposing();
        for (int size = 1; size <= village.people; size++) {
            for (int set = 1; set < 1 << village.people; set++) {
                if (Integer.bitCount(set) == size && livesBy(now, set)) {
                    return set;
                }
            }
        }
        return 0;
    }

    private boolean livesBy(Meeting now, int set) {
        int wanted = village.wantsOf(set);
        if (wanted == 0) {
            return false;
        }
        now.ways.terms.hands = set;
        now.find();
        return now.matched() == Integer.bitCount(wanted);
    }

    public int stop() {
        Meeting now = supposing();
        for (int size = 0; size <= village.people; size++) {
            for (int set = 0; set < 1 << village.people; set++) {
                if (Integer.bitCount(set) == size && stopsBy(now, set)) {
                    return set;
                }
            }
        }
        return 0;
    }

    private boolean stopsBy(Meeting now, int set) {
        now.ways.terms.givers = ~set;
        now.find();
        return now.matched() == 0;
    }

    public int other(int n, int back, int what) {
        if (n < 2 || n > HANDS || back < ANY || back > TOWNS || what < 0 || what > 2) {
            return NONE;
        }
        Meeting now = supposing();
        now.ways.terms.n = n;
        now.ways.terms.back = back;
        now.weigh();
        if (what == 0) {
            return now.matched();
        }
        return what == 1 ? now.sum() : now.painsMet();
    }

    public int note(int u, int a, int b, int hour) {
        boolean fits = village.hasUnit(u) && village.hasPerson(a) && village.hasPerson(b) && a != b
            && hour >= 0 && hour < HOURS;
        return fits ? book.add(u, a, b, hour) : NONE;
    }

    public int lies(int u, int what) {
        if (!village.hasUnit(u) || what < 0 || what > 2) {
            return NONE;
        }
        int found = book.found(u, village);
        if (what == 0) {
            return Integer.bitCount(found);
        }
        return what == 1 ? found : book.holder(u, found, village);
    }

    public boolean image(int k) {
        if (k < 0 || k >= images.length) {
            return false;
        }
        Image kept = images[k];
        kept.village.copy(village);
        kept.plan.copy(plan);
        kept.book.copy(book);
        kept.there = true;
        return true;
    }

    public boolean restore(int k) {
        if (k < 0 || k >= images.length || !images[k].there) {
            return false;
        }
        Image kept = images[k];
        village.copy(kept.village);
        plan.copy(kept.plan);
        book.copy(kept.book);
        stale = true;
        return true;
    }

    public int count(int what) {
        switch (what) {
            case 0:
                return village.people;
            case 1:
                return village.sorts;
            case 2:
                return village.units;
            case 3:
                return village.wants;
            case 4:
                return village.n;
            case 5:
                return village.back;
            case 6:
                return plan.acts;
            case 7:
                return book.notes;
            case 8:
                return bytes;
            default:
                return NONE;
        }
    }

    private static void copyAll(int[] from, int[] to) {
        System.arraycopy(from, 0, to, 0, Math.min(from.length, to.length));
    }

    private static boolean has(int bits, int k) {
        return ((bits >> k) & 1) != 0;
    }

    /** What some calls told last, for those that ask of it later. */
    private static final class Told {
        final int[] hand = new int[HANDS];
        int hands;
        final int[] asks = new int[PEOPLE];
        int askers;
        final int[] gains = new int[PEOPLE];
        int gainers;
        int middleGets = NONE;
        int starving = NONE;

        void keepWay(int path, int n) {
            hands = n;
            for (int k = 0; k < n && k < HANDS; k++) {
                hand[k] = Ways.handOf(path, k, n);
            }
        }

        void keepAsks(int[] asked, int people) {
            copyAll(asked, asks);
            askers = people;
        }

        void keepGains(int[] gained, int size) {
            copyAll(gained, gains);
            gainers = size;
        }
    }

    /** A place for VILLAGE, PLAN and BOOK. */
    private static final class Image {
        boolean there;
        final Village village = new Village();
        final Plan plan = new Plan();
        final Book book = new Book();
    }

    /** The TOKENS of the tape, one at a time, and the FAULT that ends the reading. */
    private static final class Tokens {
        static final int END = 0;
        /** The text goes on beyond the bytes that it may have. */
        static final int CUT = 1;
        static final int BAD = 2;
        static final int SEMICOLON = 3;
        static final int NUMBER = 4;
        static final int KEYWORD = 5;
        static final int NAME = 6;

        static final int WHO_WORD = 0;
        static final int OF_WORD = 1;
        static final int ASKS_WORD = 2;
        static final int SORT_WORD = 3;
        static final int MAKES_WORD = 4;
        static final int WITH_WORD = 5;
        static final int WANTS_WORD = 6;
        static final int BY_WORD = 7;
        static final int GIVES_WORD = 8;
        static final int LAW_WORD = 9;
        static final int ANY_WORD = 10;
        static final int TOWNS_WORD = 13;
        static final int GIVE_WORD = 14;
        static final int WAIT_WORD = 16;
        private static final int WORDS = 17;
        private static final String ALL_WORDS =
            "who of asks sort makes with wants by gives law any first once towns give use wait ";

        private final int[] text;
        private final int[] words = new int[WORDS];
        private int length;
        private int readable;
        private int next;
        int kind;
        /** The NUMBER, which of the words of the texts, or the code of the NAME. */
        int value;
        int place;
        int fault;

        Tokens(int[] text) {
            this.text = text;
            int code = 0;
            int word = 0;
            for (int i = 0; i < ALL_WORDS.length() && word < WORDS; i++) {
                if (ALL_WORDS.charAt(i) == ' ') {
                    words[word] = code;
                    word++;
                    code = 0;
                } else {
                    code = code * 27 + ALL_WORDS.charAt(i) - 'a' + 1;
                }
            }
        }

        void start(int bytes, int limit) {
            length = Math.min(bytes, text.length);
            readable = Math.min(length, limit);
            next = 0;
            fault = 0;
            advance();
        }

        void advance() {
            while (next < readable && (text[next] == ' ' || text[next] == 10)) {
                next++;
            }
            place = Math.min(next, readable);
            value = 0;
            if (next >= readable) {
                kind = length > readable ? CUT : END;
                return;
            }
            int stop = next;
            int digits = 0;
            while (stop < length && (isDigit(text[stop]) || isLetter(text[stop]))) {
                digits += isDigit(text[stop]) ? 1 : 0;
                stop++;
            }
            if (stop == next) {
                kind = text[next] == ';' ? SEMICOLON : BAD;
                next++;
            } else {
                takeRun(stop, digits);
                next = stop;
            }
        }

        private void takeRun(int stop, int digits) {
            int size = stop - place;
            if (digits == size && size <= 3) {
                kind = NUMBER;
                for (int i = place; i < stop; i++) {
                    value = value * 10 + text[i] - '0';
                }
            } else if (digits == 0 && size <= 6) {
                takeWord(stop);
            } else {
                kind = BAD;
            }
        }

        private void takeWord(int stop) {
            kind = NAME;
            for (int i = place; i < stop; i++) {
                value = value * 27 + text[i] - 'a' + 1;
            }
            for (int word = 0; word < WORDS && kind == NAME; word++) {
                if (words[word] == value) {
                    kind = KEYWORD;
                    value = word;
                }
            }
        }

        private static boolean isDigit(int c) {
            return c >= '0' && c <= '9';
        }

        private static boolean isLetter(int c) {
            return c >= 'a' && c <= 'z';
        }

        boolean fail(int why) {
            fault = why;
            return false;
        }

        int faultAnswer() {
            return -1 - place;
        }

        /** Which of the words of the texts stands here; NONE: another TOKEN. */
        int word() {
            return kind == KEYWORD ? value : NONE;
        }

        boolean skipWord(int word) {
            if (word() != word) {
                return false;
            }
            advance();
            return true;
        }

        boolean isNumber(int low, int high) {
            if (kind != NUMBER) {
                return fail(1);
            }
            return value >= low && value <= high || fail(2);
        }

        boolean isName() {
            return kind == NAME || fail(1);
        }

        int takeValue() {
            int taken = value;
            advance();
            return taken;
        }

        boolean semicolon() {
            if (kind != SEMICOLON) {
                return fail(1);
            }
            advance();
            return true;
        }
    }

    /** People, SORTS, UNITS, WANTS, givings and the law, and how they are read from a text. */
    private static final class Village {
        static final int UNIT_WIDTH = 5;
        static final int UNIT_SORT = 0;
        static final int MAKER = 1;
        static final int PARTNER = 2;
        static final int HOUR = 3;
        static final int SPOILS = 4;
        static final int WANT_WIDTH = 4;
        static final int WHO = 0;
        static final int WANT_SORT = 1;
        static final int WORTH = 2;
        static final int BY = 3;

        int people;
        final int[] names = new int[PEOPLE];
        final int[] towns = new int[PEOPLE];
        /** All who are of one's TOWN, as bits. */
        final int[] mates = new int[PEOPLE];
        final int[] asks = new int[PEOPLE];
        int sorts;
        final int[] sortNames = new int[SORTS];
        final int[] lives = new int[SORTS];
        int units;
        final int[] unit = new int[UNITS * UNIT_WIDTH];
        /** The first UNIT of the same LINE. */
        final int[] lead = new int[UNITS];
        int wants;
        final int[] want = new int[WANTS * WANT_WIDTH];
        /** By pairs of who gives and to whom; NONE: that giving is not told. */
        final int[] pains = new int[PEOPLE * PEOPLE];
        final int[] hours = new int[PEOPLE * PEOPLE];
        int n;
        int back;
        private boolean lawTold;

        Village() {
            n = 3;
            back = FIRST;
            Arrays.fill(pains, NONE);
        }

        void copy(Village from) {
            people = from.people;
            copyAll(from.names, names);
            copyAll(from.towns, towns);
            copyAll(from.mates, mates);
            copyAll(from.asks, asks);
            sorts = from.sorts;
            copyAll(from.sortNames, sortNames);
            copyAll(from.lives, lives);
            units = from.units;
            copyAll(from.unit, unit);
            copyAll(from.lead, lead);
            wants = from.wants;
            copyAll(from.want, want);
            copyAll(from.pains, pains);
            copyAll(from.hours, hours);
            n = from.n;
            back = from.back;
        }

        private void clear() {
            people = 0;
            sorts = 0;
            units = 0;
            wants = 0;
            Arrays.fill(pains, NONE);
            n = 3;
            back = FIRST;
            lawTold = false;
        }

        boolean hasPerson(int who) {
            return who >= 0 && who < people;
        }

        boolean hasUnit(int u) {
            return u >= 0 && u < units;
        }

        boolean hasWant(int w) {
            return w >= 0 && w < wants;
        }

        int ofUnit(int u, int what) {
            return unit[u * UNIT_WIDTH + what];
        }

        int ofWant(int w, int what) {
            return want[w * WANT_WIDTH + what];
        }

        int firsts(int u) {
            int partner = ofUnit(u, PARTNER);
            return 1 << ofUnit(u, MAKER) | (partner == NONE ? 0 : 1 << partner);
        }

        int allWants() {
            return (1 << wants) - 1;
        }

        /** The WANTS of some people, both as bits. */
        int wantsOf(int set) {
            int bits = 0;
            for (int w = 0; w < wants; w++) {
                bits |= has(set, ofWant(w, WHO)) ? 1 << w : 0;
            }
            return bits;
        }

        int wantsOfSort(int sort) {
            int bits = 0;
            for (int w = 0; w < wants; w++) {
                bits |= ofWant(w, WANT_SORT) == sort ? 1 << w : 0;
            }
            return bits;
        }

        /** If a BACK lets a thing that some have had (as bits) go on to one more. */
        boolean lets(int rule, int firsts, int had, int who) {
            switch (rule) {
                case FIRST:
                    return (had & ~firsts & 1 << who) == 0;
                case ONCE:
                    return ((had | firsts) & 1 << who) == 0;
                case TOWNS:
                    return (had & mates[who]) == 0;
                default:
                    return true;
            }
        }

        /** How many LINES; -1 less the place of a FAULT. */
        int read(Tokens tokens) {
            clear();
            int lines = 0;
            while (lines < TAPE && tokens.kind != Tokens.END) {
                if (!line(tokens) || !tokens.semicolon()) {
                    return tokens.faultAnswer();
                }
                lines++;
            }
            return lines;
        }

        private boolean line(Tokens tokens) {
            switch (tokens.word()) {
                case Tokens.WHO_WORD:
                    return whoLine(tokens);
                case Tokens.SORT_WORD:
                    return sortLine(tokens);
                case Tokens.MAKES_WORD:
                    return makesLine(tokens);
                case Tokens.WANTS_WORD:
                    return wantsLine(tokens);
                case Tokens.GIVES_WORD:
                    return givesLine(tokens);
                case Tokens.LAW_WORD:
                    return lawLine(tokens);
                default:
                    return tokens.fail(1);
            }
        }

        private static int indexOf(int[] codes, int size, int code) {
            for (int i = 0; i < size; i++) {
                if (codes[i] == code) {
                    return i;
                }
            }
            return NONE;
        }

        private boolean isNewName(Tokens tokens) {
            if (!tokens.isName()) {
                return false;
            }
            boolean known = indexOf(names, people, tokens.value) != NONE
                || indexOf(sortNames, sorts, tokens.value) != NONE;
            return !known || tokens.fail(3);
        }

        /** The WHO that stands here (the reading stays at him); NONE: a FAULT. */
        int person(Tokens tokens, int unlike) {
            if (!tokens.isName()) {
                return NONE;
            }
            int who = indexOf(names, people, tokens.value);
            if (who == NONE || who == unlike) {
                tokens.fail(3);
                return NONE;
            }
            return who;
        }

        private int takePerson(Tokens tokens, int unlike) {
            int who = person(tokens, unlike);
            if (who != NONE) {
                tokens.advance();
            }
            return who;
        }

        private int takeSort(Tokens tokens) {
            if (!tokens.isName()) {
                return NONE;
            }
            int sort = indexOf(sortNames, sorts, tokens.value);
            if (sort == NONE) {
                tokens.fail(3);
                return NONE;
            }
            tokens.advance();
            return sort;
        }

        private boolean whoLine(Tokens tokens) {
            if (people >= PEOPLE) {
                return tokens.fail(4);
            }
            tokens.advance();
            if (!isNewName(tokens)) {
                return false;
            }
            int who = people;
            names[who] = tokens.takeValue();
            towns[who] = 0;
            asks[who] = 0;
            people++;
            if (tokens.skipWord(Tokens.OF_WORD)) {
                if (!tokens.isNumber(0, 9)) {
                    return false;
                }
                towns[who] = tokens.takeValue();
            }
            if (tokens.skipWord(Tokens.ASKS_WORD)) {
                if (!tokens.isNumber(0, 99)) {
                    return false;
                }
                asks[who] = tokens.takeValue();
            }
            join(who);
            return true;
        }

        private void join(int who) {
            mates[who] = 1 << who;
            for (int p = 0; p < who; p++) {
                if (towns[p] == towns[who]) {
                    mates[p] |= 1 << who;
                    mates[who] |= 1 << p;
                }
            }
        }

        private boolean sortLine(Tokens tokens) {
            if (sorts >= SORTS) {
                return tokens.fail(4);
            }
            tokens.advance();
            if (!isNewName(tokens)) {
                return false;
            }
            int name = tokens.takeValue();
            if (!tokens.isNumber(1, HOURS)) {
                return false;
            }
            sortNames[sorts] = name;
            lives[sorts] = tokens.takeValue();
            sorts++;
            return true;
        }

        private boolean makesLine(Tokens tokens) {
            tokens.advance();
            int maker = takePerson(tokens, NONE);
            if (maker == NONE) {
                return false;
            }
            int partner = NONE;
            if (tokens.skipWord(Tokens.WITH_WORD)) {
                partner = takePerson(tokens, maker);
                if (partner == NONE) {
                    return false;
                }
            }
            int sort = takeSort(tokens);
            if (sort == NONE || !tokens.isNumber(1, 9)) {
                return false;
            }
            if (units + tokens.value > UNITS) {
                return tokens.fail(4);
            }
            int made = tokens.takeValue();
            if (!tokens.isNumber(0, HOURS - 1)) {
                return false;
            }
            int hour = tokens.takeValue();
            int first = units;
            for (int k = 0; k < made; k++) {
                addUnit(first, sort, maker, partner, hour);
            }
            return true;
        }

        private void addUnit(int first, int sort, int maker, int partner, int hour) {
            int at = units * UNIT_WIDTH;
            unit[at + UNIT_SORT] = sort;
            unit[at + MAKER] = maker;
            unit[at + PARTNER] = partner;
            unit[at + HOUR] = hour;
            unit[at + SPOILS] = hour + lives[sort];
            lead[units] = first;
            units++;
        }

        private boolean wantsLine(Tokens tokens) {
            if (wants >= WANTS) {
                return tokens.fail(4);
            }
            tokens.advance();
            int who = takePerson(tokens, NONE);
            if (who == NONE) {
                return false;
            }
            int sort = takeSort(tokens);
            if (sort == NONE || !tokens.isNumber(0, 999)) {
                return false;
            }
            int worth = tokens.takeValue();
            int by = HOURS - 1;
            if (tokens.skipWord(Tokens.BY_WORD)) {
                if (!tokens.isNumber(0, HOURS - 1)) {
                    return false;
                }
                by = tokens.takeValue();
            }
            int at = wants * WANT_WIDTH;
            want[at + WHO] = who;
            want[at + WANT_SORT] = sort;
            want[at + WORTH] = worth;
            want[at + BY] = by;
            wants++;
            return true;
        }

        private boolean givesLine(Tokens tokens) {
            tokens.advance();
            int giver = takePerson(tokens, NONE);
            if (giver == NONE) {
                return false;
            }
            int taker = person(tokens, giver);
            if (taker == NONE) {
                return false;
            }
            int pair = giver * PEOPLE + taker;
            if (pains[pair] != NONE) {
                return tokens.fail(3);
            }
            tokens.advance();
            if (!tokens.isNumber(0, 99)) {
                return false;
            }
            pains[pair] = tokens.takeValue();
            if (!tokens.isNumber(0, 9)) {
                return false;
            }
            hours[pair] = tokens.takeValue();
            return true;
        }

        private boolean lawLine(Tokens tokens) {
            if (lawTold) {
                return tokens.fail(3);
            }
            lawTold = true;
            tokens.advance();
            if (!tokens.isNumber(2, HANDS)) {
                return false;
            }
            n = tokens.takeValue();
            int word = tokens.word();
            if (word < Tokens.ANY_WORD || word > Tokens.TOWNS_WORD) {
                return tokens.fail(1);
            }
            back = word - Tokens.ANY_WORD;
            tokens.advance();
            return true;
        }
    }

    /** The ACTS of a PLAN, and how they are read or drawn. */
    private static final class Plan {
        int acts;
        final int[] what = new int[ACTS];
        /** The UNIT; of 'wait' the HOURS. */
        final int[] unit = new int[ACTS];
        final int[] whom = new int[ACTS];
        private int seed;

        void copy(Plan from) {
            acts = from.acts;
            copyAll(from.what, what);
            copyAll(from.unit, unit);
            copyAll(from.whom, whom);
        }

        private void add(int does, int number, int who) {
            if (acts < ACTS) {
                what[acts] = does;
                unit[acts] = number;
                whom[acts] = who;
                acts++;
            }
        }

        /** How many ACTS; -1 less the place of a FAULT. */
        int read(Tokens tokens, Village village) {
            acts = 0;
            for (int k = 0; k <= ACTS && tokens.kind != Tokens.END; k++) {
                if (!readAct(tokens, village) || !tokens.semicolon()) {
                    return tokens.faultAnswer();
                }
            }
            return acts;
        }

        private boolean readAct(Tokens tokens, Village village) {
            int word = tokens.word();
            if (word < Tokens.GIVE_WORD || word > Tokens.WAIT_WORD) {
                return tokens.fail(1);
            }
            if (acts >= ACTS) {
                return tokens.fail(4);
            }
            tokens.advance();
            if (word == Tokens.WAIT_WORD) {
                if (!tokens.isNumber(1, HOURS - 1)) {
                    return false;
                }
                add(WAIT, tokens.takeValue(), NONE);
                return true;
            }
            if (!tokens.isNumber(0, village.units - 1)) {
                return false;
            }
            int u = tokens.takeValue();
            int who = NONE;
            if (word == Tokens.GIVE_WORD) {
                who = village.person(tokens, NONE);
                if (who == NONE) {
                    return false;
                }
                tokens.advance();
            }
            add(word == Tokens.GIVE_WORD ? GIVE : USE, u, who);
            return true;
        }

        void draw(int m, int from, Village village) {
            acts = 0;
            seed = from;
            for (int k = 0; k < m; k++) {
                int does = next(4);
                int u = next(village.units);
                int who = next(village.people);
                if (does == 0) {
                    add(USE, u, NONE);
                } else if (does == 1) {
                    add(WAIT, 1, NONE);
                } else {
                    add(GIVE, u, who);
                }
            }
        }

        private int next(int n) {
            seed = seed * 1103515245 + 12345;
            return n > 0 ? (seed >>> 8) % n : 0;
        }
    }

    /** Notes of who had a UNIT from whom, some of them lies. */
    private static final class Book {
        int notes;
        final int[] unit = new int[NOTES];
        final int[] from = new int[NOTES];
        final int[] to = new int[NOTES];
        final int[] hour = new int[NOTES];
        /** The notes of one UNIT: in the order of HOURS, and the how-many-eth told each is. */
        private final int[] sorted = new int[UNIT_NOTES];
        private final int[] rank = new int[UNIT_NOTES];

        void copy(Book other) {
            notes = other.notes;
            copyAll(other.unit, unit);
            copyAll(other.from, from);
            copyAll(other.to, to);
            copyAll(other.hour, hour);
        }

        int add(int u, int a, int b, int when) {
            int ofUnit = 0;
            for (int i = 0; i < notes; i++) {
                ofUnit += unit[i] == u ? 1 : 0;
            }
            if (notes >= NOTES || ofUnit >= UNIT_NOTES) {
                return NONE;
            }
            unit[notes] = u;
            from[notes] = a;
            to[notes] = b;
            hour[notes] = when;
            notes++;
            return notes - 1;
        }

        private int sort(int u) {
            int size = 0;
            for (int i = 0; i < notes && size < UNIT_NOTES; i++) {
                if (unit[i] == u) {
                    int at = size;
                    while (at > 0 && hour[sorted[at - 1]] > hour[i]) {
                        sorted[at] = sorted[at - 1];
                        rank[at] = rank[at - 1];
                        at--;
                    }
                    sorted[at] = i;
                    rank[at] = size;
                    size++;
                }
            }
            return size;
        }

        /** FOUND: the fewest notes of a UNIT without which the others are TRUE together. */
        int found(int u, Village village) {
            int size = sort(u);
            int all = (1 << size) - 1;
            int best = all;
            for (int set = 0; set < all; set++) {
                if (Integer.bitCount(set) < Integer.bitCount(best) && areTrue(u, size, set, village)) {
                    best = set;
                }
            }
            return best;
        }

        private boolean areTrue(int u, int size, int without, Village village) {
            int holder = NONE;
            for (int k = 0; k < size; k++) {
                if (!has(without, rank[k])) {
                    int i = sorted[k];
                    boolean follows = holder == NONE ? has(village.firsts(u), from[i]) : holder == from[i];
                    if (!follows || hour[i] < village.ofUnit(u, Village.HOUR)) {
                        return false;
                    }
                    holder = to[i];
                }
            }
            return true;
        }

        int holder(int u, int without, Village village) {
            int size = sort(u);
            int holder = village.ofUnit(u, Village.MAKER);
            for (int k = 0; k < size; k++) {
                holder = has(without, rank[k]) ? holder : to[sorted[k]];
            }
            return holder;
        }
    }

    /** What a question supposes: the VILLAGE as told, and what the question changes of it. */
    private static final class Terms {
        final Village village;
        int n;
        int back;
        final int[] asks = new int[PEOPLE];
        final int[] pains = new int[PEOPLE * PEOPLE];
        final int[] hours = new int[PEOPLE * PEOPLE];
        /** Who may have a thing, and who may give one, as bits. */
        int hands;
        int givers;

        Terms(Village village) {
            this.village = village;
        }

        void reset() {
            n = village.n;
            back = village.back;
            copyAll(village.asks, asks);
            copyAll(village.pains, pains);
            copyAll(village.hours, hours);
            hands = -1;
            givers = -1;
        }
    }

    /**
     * The WAYS of the UNITS. A WAY is kept as a key (COST, HOURS and hands, the highest first), so
     * that the least key is the WAY taken. One may be watched: what he asks is left out of the COST,
     * and the least keys are kept by how often he comes between the first and the last hand.
     */
    private static final class Ways {
        static final long NO_WAY = 0x7fffffffffffffffL;
        /** Of four hands in the middle one can be two at most, as nobody gives to himself. */
        static final int TIMES = 3;
        private static final int PATH_BITS = 18;
        private static final int COST_SHIFT = 24;

        final Terms terms;
        final Village village;
        int watched = NONE;
        final long[] keys = new long[UNITS * WANTS * TIMES];
        /** Of the UNIT walked latest, by WANTS: HOURS that a WAY may take, WAYS that DO, their least HOURS. */
        final int[] rooms = new int[WANTS];
        final int[] counts = new int[WANTS];
        final int[] least = new int[WANTS];
        private int unit;
        private int firsts;
        private int wanters;
        private int room;
        private final int[] hand = new int[HANDS];
        private final int[] had = new int[HANDS];
        private final int[] spent = new int[HANDS];
        private final int[] cost = new int[HANDS];
        private final int[] times = new int[HANDS];

        Ways(Terms terms) {
            this.terms = terms;
            this.village = terms.village;
        }

        static int cost(long key) {
            return (int) (key >>> COST_SHIFT);
        }

        static int hours(long key) {
            return (int) (key >>> PATH_BITS) & 63;
        }

        static int path(long key) {
            return (int) key & ((1 << PATH_BITS) - 1);
        }

        static int handOf(int path, int k, int n) {
            return (path >> 3 * (n - 1 - k)) & 7;
        }

        /** The key of a WAY in which the one watched asks so much in all. */
        static long asking(long key, int asked) {
            return key == NO_WAY ? NO_WAY : key + ((long) asked << COST_SHIFT);
        }

        int pains(long key) {
            int path = path(key);
            int sum = 0;
            for (int k = 1; k < terms.n; k++) {
                sum += terms.pains[handOf(path, k - 1, terms.n) * PEOPLE + handOf(path, k, terms.n)];
            }
            return sum;
        }

        int timesBetween(long key, int who) {
            int path = path(key);
            int sum = 0;
            for (int k = 1; k < terms.n - 1; k++) {
                sum += handOf(path, k, terms.n) == who ? 1 : 0;
            }
            return sum;
        }

        /** Of each LINE one UNIT is walked: the others of it have the same WAYS. */
        void walkAll() {
            for (int u = 0; u < village.units; u++) {
                if (village.lead[u] == u) {
                    walkUnit(u);
                }
            }
        }

        void walkUnit(int u) {
            unit = u;
            firsts = village.firsts(u);
            Arrays.fill(counts, 0);
            for (int at = u * WANTS * TIMES; at < (u + 1) * WANTS * TIMES && at < keys.length; at++) {
                keys[at] = NO_WAY;
            }
            measureRooms();
            if (room < 0 || (firsts & ~terms.hands) != 0) {
                return;
            }
            for (int what = Village.MAKER; what <= Village.PARTNER; what++) {
                int first = village.ofUnit(u, what);
                if (first != NONE) {
                    hand[0] = first;
                    had[0] = 1 << first;
                    spent[0] = 0;
                    cost[0] = 0;
                    times[0] = 0;
                    onward(0);
                }
            }
        }

        private void measureRooms() {
            wanters = 0;
            room = NONE;
            for (int w = 0; w < village.wants; w++) {
                rooms[w] = NONE;
                if (village.ofWant(w, Village.WANT_SORT) == village.ofUnit(unit, Village.UNIT_SORT)) {
                    int end = Math.min(village.ofWant(w, Village.BY), village.ofUnit(unit, Village.SPOILS) - 1);
                    rooms[w] = end - village.ofUnit(unit, Village.HOUR);
                    room = Math.max(room, rooms[w]);
                    wanters |= rooms[w] < 0 ? 0 : 1 << village.ofWant(w, Village.WHO);
                }
            }
        }

        /** Goes on from the hand k to all who may be the next one; HANDS bound the depth. */
        private void onward(int k) {
            if (k >= terms.n - 1 || k >= HANDS - 1) {
                arrive(k);
                return;
            }
            if (!has(terms.givers, hand[k])) {
                return;
            }
            int nexts = terms.hands & (k + 1 == terms.n - 1 ? wanters : -1);
            for (int who = 0; who < village.people; who++) {
                int pair = hand[k] * PEOPLE + who;
                if (has(nexts, who) && terms.pains[pair] != NONE && spent[k] + terms.hours[pair] <= room
                        && village.lets(terms.back, firsts, had[k], who)) {
                    step(k, who, pair);
                }
            }
        }

        private void step(int k, int who, int pair) {
            boolean between = k + 1 < terms.n - 1;
            hand[k + 1] = who;
            had[k + 1] = had[k] | 1 << who;
            spent[k + 1] = spent[k] + terms.hours[pair];
            cost[k + 1] = cost[k] + terms.pains[pair] + (between && who != watched ? terms.asks[who] : 0);
            times[k + 1] = times[k] + (between && who == watched ? 1 : 0);
            onward(k + 1);
        }

        private void arrive(int k) {
            int path = 0;
            for (int i = 0; i <= k; i++) {
                path = path << 3 | hand[i];
            }
            long key = ((long) cost[k] << COST_SHIFT) + ((long) spent[k] << PATH_BITS) + path;
            int slot = Math.min(times[k], TIMES - 1);
            for (int w = 0; w < village.wants; w++) {
                int taker = village.want[w * Village.WANT_WIDTH + Village.WHO];
                if (spent[k] <= rooms[w] && taker == hand[k]) {
                    least[w] = counts[w] == 0 ? spent[k] : Math.min(least[w], spent[k]);
                    counts[w]++;
                    int at = (unit * WANTS + w) * TIMES + slot;
                    keys[at] = Math.min(keys[at], key);
                }
            }
        }
    }

    /** Which WANTS are met by which UNITS: MOST, BARS, BEST, MIDDLE. */
    private static final class Meeting {
        /** Below each worth's place: by WANTS, the first the highest, 16 less the UNIT; 0: none. */
        private static final int DIGIT = 5;
        private static final int WORTH_SHIFT = DIGIT * WANTS;
        private static final long LOST = -1;

        final Ways ways;
        private final Village village;
        private final long[] chosen = new long[UNITS * WANTS];
        private final int[] doers = new int[WANTS];
        private final int[] around = new int[1 << WANTS];
        private final long[] sums = new long[1 << WANTS];
        private final long[] values = new long[WANTS];
        private long top;
        int gets;

        Meeting(Ways ways) {
            this.ways = ways;
            this.village = ways.village;
        }

        /** Finds all WAYS: enough for MOST and BARS. */
        void find() {
            ways.walkAll();
            choose(0);
        }

        /** Finds all WAYS, and BEST. */
        void weigh() {
            ways.walkAll();
            choose(0);
            solve();
        }

        private void choose(int ask) {
            Arrays.fill(doers, 0);
            for (int u = 0; u < village.units; u++) {
                for (int w = 0; w < village.wants; w++) {
                    long key = takenAsking(village.lead[u] * WANTS + w, ask);
                    chosen[u * WANTS + w] = key;
                    doers[w] |= key == Ways.NO_WAY ? 0 : 1 << u;
                }
            }
        }

        private long takenAsking(int row, int ask) {
            long key = Ways.NO_WAY;
            for (int times = 0; times < Ways.TIMES; times++) {
                key = Math.min(key, Ways.asking(ways.keys[row * Ways.TIMES + times], ask * times));
            }
            return key;
        }

        long taken(int u, int w) {
            return chosen[u * WANTS + w];
        }

        /** The UNITS with a WAY that DOES for one of some WANTS, for all sets of WANTS. */
        private void lookAround() {
            around[0] = 0;
            for (int w = 0; w < village.wants; w++) {
                for (int set = 0; set < 1 << w; set++) {
                    around[set | 1 << w] = around[set] | doers[w];
                }
            }
        }

        /** MOST, by Hall: all WANTS but for what the set that is shortest of UNITS lacks. */
        int matched() {
            lookAround();
            int lack = 0;
            for (int set = 1; set < 1 << village.wants; set++) {
                lack = Math.max(lack, Integer.bitCount(set) - Integer.bitCount(around[set]));
            }
            return village.wants - lack;
        }

        int barring() {
            lookAround();
            int least = 0;
            for (int set = 1; set < 1 << village.wants; set++) {
                boolean bars = Integer.bitCount(set) > Integer.bitCount(around[set]);
                if (bars && (least == 0 || Integer.bitCount(set) < Integer.bitCount(least))) {
                    least = set;
                }
            }
            return least;
        }

        /**
         * BEST: the greatest value, added over WANTS met: (WORTH less COST) * 16 + 1, and below it the
         * digit of the WANT: so the most WANTS and the lesser UNITS decide among like sums.
         */
        private void solve() {
            top = 0;
            for (int sort = 0; sort < village.sorts; sort++) {
                top += bestOfSort(sort);
            }
        }

        private long bestOfSort(int sort) {
            int all = village.wantsOfSort(sort);
            if (all == 0) {
                return 0;
            }
            Arrays.fill(sums, LOST);
            sums[0] = 0;
            for (int u = 0; u < village.units; u++) {
                if (village.ofUnit(u, Village.UNIT_SORT) == sort) {
                    meetBy(u, all);
                }
            }
            long best = 0;
            for (int met = all; met > 0; met = met - 1 & all) {
                best = Math.max(best, sums[met]);
            }
            return best;
        }

        /** From the greater sets to the lesser, so that the UNIT is used once. */
        private void meetBy(int u, int all) {
            int open = appraise(u);
            if (open == 0) {
                return;
            }
            for (int met = all; met > 0; met = met - 1 & all) {
                for (int w = 0; w < village.wants; w++) {
                    if (has(met & open, w)) {
                        long before = sums[met ^ 1 << w];
                        if (before != LOST) {
                            sums[met] = Math.max(sums[met], before + values[w]);
                        }
                    }
                }
            }
        }

        /** The WANTS that a UNIT may meet without loss, as bits. */
        private int appraise(int u) {
            int open = 0;
            for (int w = 0; w < village.wants; w++) {
                long key = taken(u, w);
                int net = key == Ways.NO_WAY ? NONE : village.ofWant(w, Village.WORTH) - Ways.cost(key);
                if (net >= 0) {
                    open |= 1 << w;
                    values[w] = ((net * 16L + 1) << WORTH_SHIFT) + ((long) (UNITS - u) << digitOf(w));
                }
            }
            return open;
        }

        private static int digitOf(int w) {
            return DIGIT * (WANTS - 1 - w);
        }

        int sum() {
            return (int) (top >> WORTH_SHIFT + 4);
        }

        int metCount() {
            return (int) (top >> WORTH_SHIFT) & 15;
        }

        int unitFor(int w) {
            int digit = (int) (top >> digitOf(w)) & 31;
            return digit == 0 ? NONE : UNITS - digit;
        }

        int metWants() {
            int bits = 0;
            for (int w = 0; w < village.wants; w++) {
                bits |= unitFor(w) == NONE ? 0 : 1 << w;
            }
            return bits;
        }

        int painsMet() {
            int sum = 0;
            for (int w = 0; w < village.wants; w++) {
                int u = unitFor(w);
                sum += u == NONE ? 0 : ways.pains(taken(u, w));
            }
            return sum;
        }

        private int timesMet(int who) {
            int sum = 0;
            for (int w = 0; w < village.wants; w++) {
                int u = unitFor(w);
                sum += u == NONE ? 0 : ways.timesBetween(taken(u, w), who);
            }
            return sum;
        }

        /**
         * MIDDLE of one, all others asking by the terms; what he gets is kept. Who asks more comes
         * never more often, so the asking ends when even the most asked could not get more.
         */
        int middleAsk(int who) {
            ways.watched = who;
            ways.walkAll();
            ways.watched = NONE;
            int middle = 0;
            gets = 0;
            int times = NONE;
            for (int ask = 1; ask <= MOST_ASKED && (times == NONE || times * MOST_ASKED > gets); ask++) {
                choose(ask);
                solve();
                times = timesMet(who);
                if (ask * times > gets) {
                    gets = ask * times;
                    middle = ask;
                }
            }
            return middle;
        }
    }

    /** A PLAN done from HOUR 0 on. */
    private static final class Day {
        boolean done;
        int why;
        int hour;
        int met;
        int pains;
        int spoilt;
        int units;
        /** UNITS that whoever has them may use, as bits. */
        int usable;
        final int[] who = new int[UNITS];
        final int[] nth = new int[UNITS];
        private final int[] had = new int[UNITS];
        private final int[] due = new int[UNITS];

        /** The first ACT that is WRONG; NONE: none. */
        int go(Village village, Plan plan) {
            begin(village);
            for (int i = 0; i < plan.acts; i++) {
                why = doAct(village, plan.what[i], plan.unit[i], plan.whom[i]);
                if (why != 0) {
                    close(village);
                    return i;
                }
            }
            close(village);
            return NONE;
        }

        private void begin(Village village) {
            done = true;
            why = 0;
            hour = 0;
            met = 0;
            pains = 0;
            units = village.units;
            for (int u = 0; u < units; u++) {
                who[u] = village.ofUnit(u, Village.MAKER);
                nth[u] = 1;
                due[u] = 0;
            }
        }

        private void close(Village village) {
            spoilt = 0;
            usable = 0;
            for (int u = 0; u < units; u++) {
                boolean isSpoilt = hour >= village.ofUnit(u, Village.SPOILS);
                boolean there = nth[u] != 0 && hour >= due[u] && !isSpoilt;
                spoilt |= nth[u] != 0 && isSpoilt ? 1 << u : 0;
                usable |= there && nth[u] == village.n && wantMet(village, u) != NONE ? 1 << u : 0;
            }
        }

        /** Why an ACT is WRONG; 0: it is not, and is done. */
        private int doAct(Village village, int what, int u, int whom) {
            if (what == WAIT) {
                if (hour + u >= HOURS) {
                    return 8;
                }
                hour += u;
                return 0;
            }
            if (hour < village.ofUnit(u, Village.HOUR)) {
                return 1;
            }
            if (nth[u] == 0 || hour >= village.ofUnit(u, Village.SPOILS)) {
                return 2;
            }
            if (hour < due[u]) {
                return 3;
            }
            return what == GIVE ? give(village, u, whom) : use(village, u);
        }

        private int give(Village village, int u, int whom) {
            int giver = giver(village, u, whom);
            if (giver == NONE) {
                return 4;
            }
            int before = nth[u] == 1 ? 1 << giver : had[u];
            if (!village.lets(village.back, village.firsts(u), before, whom)) {
                return 5;
            }
            had[u] = before | 1 << whom;
            who[u] = whom;
            nth[u]++;
            due[u] = hour + village.hours[giver * PEOPLE + whom];
            pains += village.pains[giver * PEOPLE + whom];
            return 0;
        }

        /** Who of those that have a UNIT is told to give to one: the least; NONE: nobody. */
        private int giver(Village village, int u, int whom) {
            int havers = nth[u] == 1 ? village.firsts(u) : 1 << who[u];
            for (int p = 0; p < village.people; p++) {
                if (has(havers, p) && village.pains[p * PEOPLE + whom] != NONE) {
                    return p;
                }
            }
            return NONE;
        }

        private int use(Village village, int u) {
            if (nth[u] != village.n) {
                return 6;
            }
            int w = wantMet(village, u);
            if (w == NONE) {
                return 7;
            }
            met |= 1 << w;
            nth[u] = 0;
            who[u] = NONE;
            return 0;
        }

        private int wantMet(Village village, int u) {
            for (int w = 0; w < village.wants; w++) {
                if (village.ofWant(w, Village.WHO) == who[u] && !has(met, w)
                        && village.ofWant(w, Village.WANT_SORT) == village.ofUnit(u, Village.UNIT_SORT)
                        && hour <= village.ofWant(w, Village.BY)) {
                    return w;
                }
            }
            return NONE;
        }
    }

    /** People of whom each gives to the next one, the last one to the first. */
    private static final class Ring {
        private final Village village;
        private final int[] order = new int[PEOPLE];
        int size;
        final int[] gains = new int[PEOPLE];

        Ring(Village village) {
            this.village = village;
        }

        /** If the bytes are 2 to 8 unlike people; they are the RING then. */
        boolean take(int[] tape, int bytes) {
            if (bytes < 2 || bytes > PEOPLE || bytes > tape.length) {
                return false;
            }
            int seen = 0;
            for (int i = 0; i < bytes; i++) {
                int who = tape[i];
                if (!village.hasPerson(who) || has(seen, who)) {
                    return false;
                }
                seen |= 1 << who;
                order[i] = who;
            }
            size = bytes;
            return true;
        }

        /** Along the RING, from the last one on to the first. */
        private int spot(int i) {
            return size > 0 ? i % size : 0;
        }

        private int at(int i) {
            return order[spot(i)];
        }

        private int painsFrom(int i) {
            return village.pains[at(i) * PEOPLE + at(i + 1)];
        }

        boolean closes() {
            for (int i = 0; i < size; i++) {
                if (painsFrom(i) == NONE) {
                    return false;
                }
            }
            return true;
        }

        void reckon() {
            Arrays.fill(gains, 0);
            for (int i = 0; i < size; i++) {
                int u = madeBy(order[i]);
                if (u != NONE && goes(u, i)) {
                    send(u, i);
                }
            }
        }

        /** One UNIT of the first 'makes' in which one is told first; NONE: there is none. */
        private int madeBy(int who) {
            for (int u = 0; u < village.units; u++) {
                if (village.ofUnit(u, Village.MAKER) == who) {
                    return u;
                }
            }
            return NONE;
        }

        private boolean goes(int u, int start) {
            int had = 1 << at(start);
            for (int k = 1; k < village.n; k++) {
                int who = at(start + k);
                if (!village.lets(village.back, village.firsts(u), had, who)) {
                    return false;
                }
                had |= 1 << who;
            }
            return true;
        }

        private void send(int u, int start) {
            for (int k = 0; k < village.n - 1; k++) {
                gains[spot(start + k)] -= painsFrom(start + k);
            }
            int user = spot(start + village.n - 1);
            gains[user] += worth(order[user], village.ofUnit(u, Village.UNIT_SORT));
        }

        private int worth(int who, int sort) {
            for (int w = 0; w < village.wants; w++) {
                if (village.ofWant(w, Village.WHO) == who && village.ofWant(w, Village.WANT_SORT) == sort) {
                    return village.ofWant(w, Village.WORTH);
                }
            }
            return 0;
        }

        int losers() {
            int bits = 0;
            for (int i = 0; i < size; i++) {
                bits |= gains[i] < 0 ? 1 << order[i] : 0;
            }
            return bits;
        }

        int members() {
            int bits = 0;
            for (int i = 0; i < size; i++) {
                bits |= 1 << order[i];
            }
            return bits;
        }

        void leave(int leavers) {
            int left = 0;
            for (int i = 0; i < size; i++) {
                if (!has(leavers, order[i])) {
                    order[left] = order[i];
                    left++;
                }
            }
            size = left;
        }
    }
}
