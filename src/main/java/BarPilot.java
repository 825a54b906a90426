import java.util.Arrays;

/** A bar whose pilot lets no ship past without a joke that he has not heard; the document DOC.md tells every call. */
public final class BarPilot {

    public static final int NONE = -1;

    private static final int MOST_BYTES = 400;
    private static final int MOST_RULES = 6;
    private static final int MOST_IMAGES = 4;
    private static final int MOST_JOKES = 8;
    private static final int MOST_SHIPS = 5;
    private static final int MOST_ACTS = 20;
    private static final int MOST_NOTES = 10;
    private static final int LAST_TIDE = 999;
    private static final int FAR_TIDES = 100;
    private static final int MANY_TIDES = 60;
    private static final int LARGEST = 2147483647;
    // So long ago that it lies behind every FADES and behind the 99 of "since".
    private static final int NEVER = -100000;

    private final Tape tape;
    private final BarReader barReader;
    private final RuleReader ruleReader;
    private final Rule[] rules;
    private final Book book;
    private final Book[] images;
    private final Pilot pilot;
    private final Asker asker;
    private int ruleCount;

    public BarPilot() {
        tape = new Tape();
        barReader = new BarReader(tape);
        ruleReader = new RuleReader(tape);
        rules = new Rule[MOST_RULES];
        book = new Book();
        images = new Book[MOST_IMAGES];
        pilot = new Pilot(book.told);
        asker = new Asker(book, pilot);
        ruleCount = 0;
    }

    // ---- the tape, the bar and the rules

    public int feed(int a, int b, int c, int d, int e) {
        if (tape.length + 20 > MOST_BYTES) {
            return NONE;
        }
        tape.put(a);
        tape.put(b);
        tape.put(c);
        tape.put(d);
        tape.put(e);
        return tape.length;
    }

    public int end(int n) {
        if (n < 0 || n > tape.length) {
            return NONE;
        }
        tape.length = n;
        return n;
    }

    public int bar() {
        int fault = barReader.read();
        tape.length = 0;
        if (fault != 0) {
            return -2 - fault;
        }
        book.open(barReader.told);
        return book.told.ships;
    }

    public int rule() {
        if (ruleCount >= MOST_RULES) {
            return NONE;
        }
        int fault = ruleReader.read();
        tape.length = 0;
        if (fault != 0) {
            return -2 - fault;
        }
        rules[ruleCount] = ruleReader.made();
        ruleCount++;
        return ruleCount - 1;
    }

    public int force(int rule) {
        if (!isRuleOrNone(rule)) {
            return -2;
        }
        int was = book.force;
        book.force = rule;
        return was;
    }

    // ---- what is so now

    public int joke(int joke, int what) {
        if (!isJoke(joke)) {
            return NONE;
        }
        int memory = book.told.remembered(book.scene);
        switch (what) {
            case 0:
            case 1:
            case 2:
                return book.told.part[3 * joke + what];
            case 3:
                return memory >> joke & 1;
            case 4:
                return book.told.isNew(joke, memory) ? 1 : 0;
            case 5:
                return book.scene.since(joke);
            default:
                return NONE;
        }
    }

    public int ship(int ship, int what) {
        if (!isShip(ship)) {
            return -2;
        }
        switch (what) {
            case 0:
                return book.told.cargo[ship];
            case 1:
                return book.told.keeps[ship];
            case 2:
                return book.scene.knows[ship];
            case 3:
                return book.scene.passed[ship];
            default:
                return -2;
        }
    }

    public int count(int what) {
        switch (what) {
            case 0:
                return book.told.fades;
            case 1:
                return book.told.like;
            case 2:
                return book.told.jokes;
            case 3:
                return book.told.ships;
            case 4:
                return ruleCount;
            case 5:
                return book.force;
            case 6:
                return book.scene.tide;
            case 7:
                return book.told.earned(book.scene);
            case 8:
                return book.told.waiting(book.scene);
            case 9:
                return book.told.remembered(book.scene);
            case 10:
                return book.notes;
            case 11:
                return book.acts;
            case 12:
                return book.x;
            case 13:
                return tape.length;
            default:
                return NONE;
        }
    }

    // ---- acts

    public int tide() {
        if (!book.told.there || book.scene.tide >= LAST_TIDE) {
            return NONE;
        }
        book.keepAct();
        pilot.rule = ruleAt(book.force);
        return pilot.oneTide(book.scene);
    }

    public int say(int ship, int joke) {
        if (!isWaiting(ship) || !isJoke(joke) || !book.scene.isKnown(ship, joke)) {
            return NONE;
        }
        book.keepAct();
        pilot.meet(book.scene);
        return pilot.hears(ship, joke) ? 1 : 0;
    }

    public int trade(int one, int other) {
        if (!isWaiting(one) || !isWaiting(other) || book.scene.knows[one] == book.scene.knows[other]) {
            return NONE;
        }
        book.keepAct();
        return book.scene.share(one, other);
    }

    public int coin(int ship, int joke) {
        if (!isWaiting(ship) || !isJoke(joke) || book.scene.isKnown(ship, joke)) {
            return NONE;
        }
        book.keepAct();
        book.scene.knows[ship] |= 1 << joke;
        return book.scene.knows[ship];
    }

    public int dull(int joke) {
        if (!isJoke(joke) || (book.told.remembered(book.scene) >> joke & 1) == 0) {
            return NONE;
        }
        book.keepAct();
        int ago = book.scene.since(joke);
        book.scene.heard[joke] = NEVER;
        return ago;
    }

    public int undo() {
        return book.undoAct() ? book.acts : -2;
    }

    // ---- what would be

    public int ahead(int ship, int n, int what) {
        boolean ofShip = what == 0 && isShip(ship);
        if (!book.told.there || !isWithin(n, 0, FAR_TIDES) || !(ofShip || what == 1 || what == 2)) {
            return -2;
        }
        Scene then = asking().later(n);
        if (ofShip) {
            return then.passed[ship];
        }
        return what == 1 ? book.told.earned(then) : book.told.passed(then);
    }

    public int over(int ship, int what) {
        if (!isWaiting(ship) || !isWithin(what, 0, 1)) {
            return NONE;
        }
        if (!asking().findPassing(ship)) {
            return -2;
        }
        return what == 0 ? asker.amount : asker.first;
    }

    public int alike(int one, int other) {
        if (!isJoke(one) || !isJoke(other)) {
            return NONE;
        }
        return book.told.partsAlike(one, other);
    }

    public int fresh() {
        if (!book.told.there) {
            return NONE;
        }
        return book.told.newOnes(book.told.remembered(book.scene));
    }

    public int least() {
        if (!book.told.there) {
            return NONE;
        }
        return book.told.leastUnlike();
    }

    public int row(int ship, int n, int what) {
        if (!isWaiting(ship) || !isWithin(n, 1, 4) || !isWithin(what, 0, 4)) {
            return -3;
        }
        int last = what > n ? NONE : asking().findRow(ship, n);
        if (last == NONE) {
            return -2;
        }
        if (what == 0) {
            return book.scene.tide + last;
        }
        return what - 1 <= last ? asker.choice[what - 1] : NONE;
    }

    public int forget(int n, int what) {
        if (!book.told.there || !isWithin(n, 1, MANY_TIDES) || !isWithin(what, 0, 1)) {
            return -2;
        }
        asking().findForgotten(n);
        return what == 0 ? asker.first : asker.amount;
    }

    public int barter(int n, int what) {
        if (!book.told.there || !isWithin(n, 1, MANY_TIDES) || !isWithin(what, 0, 2)) {
            return -2;
        }
        asking().findTraders(n);
        if (what == 2) {
            return asker.amount;
        }
        return what == 0 ? asker.first : asker.second;
    }

    public int school(int n, int what) {
        if (!book.told.there || !isWithin(n, 1, MANY_TIDES) || !isWithin(what, 0, 1)) {
            return NONE;
        }
        int set = asking().findLessons(n);
        if (set == NONE) {
            return -2;
        }
        return what == 0 ? Integer.bitCount(set) : set;
    }

    public int old(int rule, int n, int many, int what) {
        if (!book.told.there || !isRuleOrNone(rule) || !isWithin(n, 1, MANY_TIDES)
                || !isWithin(many, 0, MOST_SHIPS) || !isWithin(what, 0, 2)) {
            return -3;
        }
        asker.findOldSets(ruleAt(rule), n, many);
        if (what == 0) {
            return asker.amount;
        }
        if (what == 1) {
            return asker.amount == 0 ? -2 : asker.first;
        }
        return asker.amount == 0 ? 0 : asker.second;
    }

    public int game(int one, int other, int n, int what) {
        if (one == other || !isWaiting(one) || !isWaiting(other) || !isWithin(n, 1, 3) || !isWithin(what, 0, 1)) {
            return -1000;
        }
        asker.playGame(one, other, n);
        return what == 0 ? asker.amount : asker.first;
    }

    public int parts(int purse, int ship) {
        if (!isShip(ship) || !isWithin(purse, 0, 9999)) {
            return NONE;
        }
        return book.told.partOf(purse, ship, book.scene);
    }

    public int order(int ship) {
        if (!isShip(ship)) {
            return NONE;
        }
        return asking().placeOf(ship);
    }

    // ---- notes

    public int note(int n, int ship, int joke) {
        if (n == NONE) {
            book.notes = 0;
            return 0;
        }
        boolean right = isWithin(n, 0, MANY_TIDES) && isShip(ship) && (joke == NONE || isJoke(joke));
        if (!right || book.notes >= MOST_NOTES) {
            return -2;
        }
        book.addNote(n, ship, joke);
        return book.notes;
    }

    public int ruled(int what) {
        if (!book.told.there || !isWithin(what, 0, 1)) {
            return -3;
        }
        asker.tryRules(rules, ruleCount, NONE);
        if (what == 0) {
            return asker.amount;
        }
        return asker.amount == 0 ? -2 : asker.first;
    }

    public int look(int n, int what) {
        if (!book.told.there || !isWithin(n, 0, MANY_TIDES) || !isWithin(what, 0, 1)) {
            return NONE;
        }
        asker.tryRules(rules, ruleCount, n);
        if (asker.amount == 0 || book.told.ships == 0) {
            return -2;
        }
        asker.findParting(ruleCount);
        return what == 0 ? asker.first : asker.amount;
    }

    // ---- parrots

    public int seed(int x) {
        if (x < 0) {
            return NONE;
        }
        int was = book.x;
        book.x = x;
        return was;
    }

    public int parrots(int m, int n, int p, int what) {
        if (!book.told.there || !isWithin(m, 1, 10) || !isWithin(n, 1, MANY_TIDES)
                || !isWithin(p, 0, 100) || !isWithin(what, 0, 1)) {
            return NONE;
        }
        asking().drawYears(m, n, p);
        return what == 0 ? asker.amount : asker.first;
    }

    // ---- images

    public int image(int k) {
        if (!isWithin(k, 0, MOST_IMAGES - 1)) {
            return NONE;
        }
        if (images[k] == null) {
            images[k] = new Book();
        }
        images[k].copyFrom(book);
        return book.scene.tide;
    }

    public int back(int k) {
        if (!isWithin(k, 0, MOST_IMAGES - 1) || images[k] == null) {
            return NONE;
        }
        book.copyFrom(images[k]);
        return book.scene.tide;
    }

    // ---- tests of what is given

    private static boolean isWithin(int n, int low, int high) {
        return n >= low && n <= high;
    }

    private boolean isJoke(int joke) {
        return joke >= 0 && joke < book.told.jokes;
    }

    private boolean isShip(int ship) {
        return ship >= 0 && ship < book.told.ships;
    }

    private boolean isWaiting(int ship) {
        return isShip(ship) && book.scene.passed[ship] == NONE;
    }

    private boolean isRuleOrNone(int rule) {
        return rule == NONE || rule >= 0 && rule < ruleCount;
    }

    private Rule ruleAt(int rule) {
        return rule >= 0 && rule < ruleCount ? rules[rule] : null;
    }

    // Questions about old tides leave another rule with the pilot, so each question sets its own.
    private Asker asking() {
        pilot.rule = ruleAt(book.force);
        return asker;
    }

    /** The bytes fed, and of these the token that is read next. */
    private static final class Tape {
        static final int END = 0;
        static final int NUMBER = 1;
        static final int WORD = 2;
        static final int SIGN = 3;
        // Added to the byte of a < or > that a = follows.
        static final int OR_SAME = 256;
        static final int TOO_LONG = 100000;
        private static final int MOST_DIGITS = 5;
        private static final int MOST_LETTERS = 7;

        final int[] bytes = new int[MOST_BYTES];
        int length;
        int fault;
        int kind;
        int start;
        // Of a number, TOO_LONG if it has too many digits.
        int value;
        // The letters of a word as bytes of one number, or 0: no word that can stand has more than seven.
        long word;
        // The byte of a sign, or NONE.
        int sign;
        private int stop;

        void put(int four) {
            for (int shift = 24; shift >= 0 && length < MOST_BYTES; shift -= 8) {
                bytes[length] = four >> shift & 255;
                length++;
            }
        }

        void rewind() {
            stop = 0;
            fault = 0;
            next();
        }

        boolean failAt(int where, int what) {
            if (fault == 0) {
                fault = 1 + 8 * where + what;
            }
            return false;
        }

        void next() {
            while (stop < length && bytes[stop] == ' ') {
                stop++;
            }
            kind = END;
            start = stop;
            value = 0;
            word = 0;
            sign = NONE;
            while (stop < length && bytes[stop] >= '0' && bytes[stop] <= '9') {
                kind = NUMBER;
                value = stop - start < MOST_DIGITS ? 10 * value + bytes[stop] - '0' : TOO_LONG;
                stop++;
            }
            while (kind != NUMBER && stop < length && bytes[stop] >= 'a' && bytes[stop] <= 'z') {
                kind = WORD;
                word = stop - start < MOST_LETTERS ? word << 8 | bytes[stop] : 0;
                stop++;
            }
            if (kind == END && stop < length) {
                kind = SIGN;
                sign = bytes[stop];
                stop++;
                if ((sign == '<' || sign == '>') && stop < length && bytes[stop] == '=') {
                    sign += OR_SAME;
                    stop++;
                }
            }
        }

        // A number as told, or NONE behind a fault.
        int takeNumber(int low, int high) {
            if (kind != NUMBER) {
                failAt(start, 0);
                return NONE;
            }
            if (value < low || value > high) {
                failAt(start, 1);
                return NONE;
            }
            int number = value;
            next();
            return number;
        }

        // Whether another clause must follow; it is a fault if neither that nor the end does.
        boolean takesSeparator() {
            if (sign == ';') {
                next();
                return true;
            }
            return kind != END && failAt(start, 0);
        }
    }

    /** Reads a bar from the tape. */
    private static final class BarReader {
        private static final int MOST_CLAUSES = 40;
        // The letters b a r, j o k e, s h i p, k n o w s.
        private static final long BAR = 0x626172L;
        private static final long JOKE = 0x6a6f6b65L;
        private static final long SHIP = 0x73686970L;
        private static final long KNOWS = 0x6b6e6f7773L;

        final Told told = new Told();
        private final Tape tape;

        BarReader(Tape tape) {
            this.tape = tape;
        }

        // The fault, or 0 if the bar stands in told.
        int read() {
            tape.rewind();
            told.clear();
            boolean more = true;
            for (int clause = 0; more && clause <= MOST_CLAUSES; clause++) {
                more = readClause(clause) && tape.takesSeparator();
            }
            return tape.fault;
        }

        private boolean readClause(int clause) {
            long word = tape.word;
            if (word != BAR && word != JOKE && word != SHIP && word != KNOWS) {
                return tape.failAt(tape.start, 0);
            }
            if (isTooMuch(word, clause)) {
                return tape.failAt(tape.start, 4);
            }
            tape.next();
            if (word == BAR) {
                return readBar();
            }
            if (word == JOKE) {
                return readJoke();
            }
            return word == SHIP ? readShip() : readKnows();
        }

        private boolean isTooMuch(long word, int clause) {
            return (word == BAR) != (clause == 0)
                    || clause >= MOST_CLAUSES
                    || word == JOKE && told.jokes >= MOST_JOKES
                    || word == SHIP && told.ships >= MOST_SHIPS;
        }

        private boolean readBar() {
            told.fades = tape.takeNumber(1, 60);
            told.like = told.fades == NONE ? NONE : tape.takeNumber(1, 3);
            return told.like != NONE;
        }

        private boolean readJoke() {
            int set = tape.takeNumber(0, 9);
            int turn = set == NONE ? NONE : tape.takeNumber(0, 9);
            int kin = turn == NONE ? NONE : tape.takeNumber(0, 9);
            if (kin == NONE) {
                return false;
            }
            told.addJoke(set, turn, kin);
            return true;
        }

        private boolean readShip() {
            int cargo = tape.takeNumber(0, 99);
            int keeps = cargo == NONE ? NONE : tape.takeNumber(0, 60);
            if (keeps == NONE) {
                return false;
            }
            told.addShip(cargo, keeps);
            return true;
        }

        private boolean readKnows() {
            int ship = tape.takeNumber(0, told.ships - 1);
            int joke = ship == NONE ? NONE : tape.takeNumber(0, told.jokes - 1);
            if (joke == NONE) {
                return false;
            }
            told.knows[ship] |= 1 << joke;
            return true;
        }
    }

    /** Reads a rule from the tape and puts it into code, each value ahead of what joins it. */
    private static final class RuleReader {
        private static final int MOST_CLAUSES = 12;
        private static final int MOST_DEEP = 10;
        private static final int MOST_COUNTED = 60;
        // The letters t e l l, i f, o r, a n d, n o t.
        private static final long TELL = 0x74656c6cL;
        private static final long IF = 0x6966L;
        private static final long OR = 0x6f72L;
        private static final long AND = 0x616e64L;
        private static final long NOT = 0x6e6f74L;
        // Those of ship, joke, cargo, keeps, like, fresh, known, waiting, since, passed, tide, by the numbers in Rule.
        private static final long[] WORDS = {
            0x73686970L, 0x6a6f6b65L, 0x636172676fL, 0x6b65657073L, 0x6c696b65L, 0x6672657368L,
            0x6b6e6f776eL, 0x77616974696e67L, 0x73696e6365L, 0x706173736564L, 0x74696465L
        };

        private final Tape tape;
        private final int[] code = new int[MOST_BYTES];
        private final int[] spare = new int[MOST_BYTES];
        private int length;
        private int counted;
        private int words;

        RuleReader(Tape tape) {
            this.tape = tape;
        }

        // The fault, or 0 if the rule can be made.
        int read() {
            tape.rewind();
            length = 0;
            counted = 0;
            words = 0;
            boolean more = true;
            for (int clause = 0; more && clause <= MOST_CLAUSES; clause++) {
                more = readClause(clause) && tape.takesSeparator();
            }
            return tape.fault;
        }

        Rule made() {
            return new Rule(Arrays.copyOf(code, length), words);
        }

        private boolean readClause(int clause) {
            if (tape.word != TELL) {
                return tape.failAt(tape.start, 0);
            }
            if (clause >= MOST_CLAUSES) {
                return tape.failAt(tape.start, 4);
            }
            tape.next();
            int sumAt = length;
            if (!readSum()) {
                return false;
            }
            if (tape.word == IF) {
                int testAt = length;
                tape.next();
                if (!readTest(0)) {
                    return false;
                }
                moveTestAhead(sumAt, testAt);
            }
            return put(Rule.GIVE, 0);
        }

        // The text has the sum first, but it counts only if the test holds.
        private void moveTestAhead(int sumAt, int testAt) {
            int sum = testAt - sumAt;
            if (sum < 0 || length >= code.length) {
                return;
            }
            System.arraycopy(code, sumAt, spare, 0, sum);
            System.arraycopy(code, testAt, code, sumAt, length - testAt);
            length -= sum;
            put(Rule.SKIP, sum + 1);
            System.arraycopy(spare, 0, code, length, sum);
            length += sum;
        }

        // An or waits for all that and joins behind it, so it lands at the next or, or at the end.
        private boolean readTest(int depth) {
            int waiting = NONE;
            boolean right = readFact(depth);
            for (int i = 0; i < MOST_BYTES && right && (tape.word == AND || tape.word == OR); i++) {
                boolean and = tape.word == AND;
                if (!and) {
                    land(waiting);
                    waiting = length;
                }
                int jump = length;
                put(and ? Rule.AND : Rule.OR, 0);
                tape.next();
                right = readFact(depth);
                if (and) {
                    land(jump);
                }
            }
            land(waiting);
            return right;
        }

        private boolean readFact(int depth) {
            boolean not = tape.word == NOT;
            boolean opens = tape.sign == '[';
            if ((not || opens) && depth >= MOST_DEEP) {
                return tape.failAt(tape.start, 2);
            }
            if (not) {
                tape.next();
                return readFact(depth + 1) && put(Rule.NOT, 0);
            }
            if (opens) {
                tape.next();
                if (!readTest(depth + 1)) {
                    return false;
                }
                if (tape.sign != ']') {
                    return tape.failAt(tape.start, 0);
                }
                tape.next();
                return true;
            }
            if (!readSum()) {
                return false;
            }
            int step = compareStep(tape.sign);
            if (step == NONE) {
                return tape.failAt(tape.start, 0);
            }
            if (!counts()) {
                return tape.failAt(tape.start, 3);
            }
            tape.next();
            return readSum() && put(step, 0);
        }

        private static int compareStep(int sign) {
            switch (sign) {
                case '<':
                    return Rule.BELOW;
                case '<' + Tape.OR_SAME:
                    return Rule.AT_MOST;
                case '=':
                    return Rule.SAME;
                case '>' + Tape.OR_SAME:
                    return Rule.AT_LEAST;
                case '>':
                    return Rule.ABOVE;
                default:
                    return NONE;
            }
        }

        // A + or - waits until the term behind it is whole.
        private boolean readSum() {
            int waiting = NONE;
            boolean right = readValue();
            for (int i = 0; i < MOST_BYTES && right && joinStep(tape.sign) != NONE; i++) {
                int step = joinStep(tape.sign);
                tape.next();
                if (step == Rule.ADD || step == Rule.TAKE) {
                    if (waiting != NONE) {
                        put(waiting, 0);
                    }
                    waiting = step;
                    right = readValue();
                } else {
                    right = readValue() && put(step, 0);
                }
            }
            if (waiting != NONE) {
                put(waiting, 0);
            }
            return right;
        }

        private static int joinStep(int sign) {
            switch (sign) {
                case '+':
                    return Rule.ADD;
                case '-':
                    return Rule.TAKE;
                case '*':
                    return Rule.TIMES;
                case '/':
                    return Rule.SHARE;
                case '%':
                    return Rule.REST;
                default:
                    return NONE;
            }
        }

        private boolean readValue() {
            if (tape.kind == Tape.NUMBER && tape.value == Tape.TOO_LONG) {
                return tape.failAt(tape.start, 1);
            }
            int word = wordFound();
            if (tape.kind != Tape.NUMBER && word == NONE) {
                return tape.failAt(tape.start, 0);
            }
            if (!counts()) {
                return tape.failAt(tape.start, 3);
            }
            if (word == NONE) {
                put(Rule.NUMBER, tape.value);
            } else {
                put(Rule.WORD, word);
                words |= 1 << word;
            }
            tape.next();
            return true;
        }

        private int wordFound() {
            for (int word = 0; word < WORDS.length; word++) {
                if (tape.word == WORDS[word]) {
                    return word;
                }
            }
            return NONE;
        }

        // Of values, and of facts made of a sign; a fault comes where it is one too many.
        private boolean counts() {
            counted++;
            return counted <= MOST_COUNTED;
        }

        // Every step stems from a byte of its own, so the code is never longer than the tape.
        private boolean put(int step, int with) {
            if (length < code.length) {
                code[length] = step << Rule.STEP_SHIFT | with;
                length++;
            }
            return true;
        }

        private void land(int jump) {
            if (jump != NONE && jump < length) {
                code[jump] |= length - jump - 1;
            }
        }
    }

    /** A rule in code: of each clause its test, a step that skips the clause, its sum, a step that gives it. */
    private static final class Rule {
        static final int STEP_SHIFT = 20;

        static final int NUMBER = 0;
        static final int WORD = 1;
        static final int NOT = 2;
        static final int AND = 3;
        static final int OR = 4;
        static final int SKIP = 5;
        static final int GIVE = 6;
        static final int ADD = 7;
        static final int TAKE = 8;
        static final int TIMES = 9;
        static final int SHARE = 10;
        static final int REST = 11;
        static final int BELOW = 12;
        static final int AT_MOST = 13;
        static final int SAME = 14;
        static final int AT_LEAST = 15;
        static final int ABOVE = 16;

        static final int SHIP = 0;
        static final int JOKE = 1;
        static final int CARGO = 2;
        static final int KEEPS = 3;
        static final int LIKE = 4;
        static final int FRESH = 5;
        static final int KNOWN = 6;
        static final int WAITING = 7;
        static final int SINCE = 8;
        static final int PASSED = 9;
        static final int TIDE = 10;
        static final int ALL_WORDS = 11;

        private static final int WITH_MASK = (1 << STEP_SHIFT) - 1;
        private static final int TIMED_WORDS = 1 << KEEPS | 1 << SINCE | 1 << TIDE;

        // Whether what it tells can change while nobody is heard and nothing fades.
        final boolean timed;
        final boolean asksLike;
        final boolean asksKnown;
        private final int[] code;
        // A compared sum, a sum, a term and a value lie on it at once, no more.
        private final long[] stack = new long[8];

        Rule(int[] code, int words) {
            this.code = code;
            timed = (words & TIMED_WORDS) != 0;
            asksLike = (words & 1 << LIKE) != 0;
            asksKnown = (words & 1 << KNOWN) != 0;
        }

        // What the first clause that holds says, the words being worth so much.
        long worth(int[] values) {
            int[] steps = code;
            long[] pile = stack;
            int top = -1;
            for (int at = 0; at < steps.length; at++) {
                int step = steps[at] >> STEP_SHIFT;
                int with = steps[at] & WITH_MASK;
                if (!fits(step, with, top)) {
                    return 0;
                }
                switch (step) {
                    case NUMBER:
                        top++;
                        pile[top] = with;
                        break;
                    case WORD:
                        top++;
                        pile[top] = values[with];
                        break;
                    case NOT:
                        pile[top] = 1 - pile[top];
                        break;
                    case AND:
                        if (pile[top] == 0) {
                            at += with;
                        } else {
                            top--;
                        }
                        break;
                    case OR:
                        if (pile[top] != 0) {
                            at += with;
                        } else {
                            top--;
                        }
                        break;
                    case SKIP:
                        if (pile[top] == 0) {
                            at += with;
                        }
                        top--;
                        break;
                    case GIVE:
                        return pile[top];
                    default:
                        top--;
                        pile[top] = joined(step, pile[top], pile[top + 1]);
                        break;
                }
            }
            return 0;
        }

        // The reader makes no code that does not; still no index is used that was not looked at.
        private boolean fits(int step, int with, int top) {
            if (step <= WORD) {
                return top < stack.length - 1 && (step == NUMBER || with < ALL_WORDS);
            }
            return top >= (step >= ADD ? 1 : 0);
        }

        private static long joined(int step, long left, long right) {
            switch (step) {
                case ADD:
                    return left + right;
                case TAKE:
                    return left - right;
                case TIMES:
                    return left * right;
                case SHARE:
                    return right == 0 ? 0 : left / right;
                case REST:
                    return right == 0 ? 0 : left % right;
                case BELOW:
                    return left < right ? 1 : 0;
                case AT_MOST:
                    return left <= right ? 1 : 0;
                case SAME:
                    return left == right ? 1 : 0;
                case AT_LEAST:
                    return left >= right ? 1 : 0;
                default:
                    return left > right ? 1 : 0;
            }
        }
    }

    /** A bar as its text told it. */
    private static final class Told {
        boolean there;
        int fades;
        int like;
        int jokes;
        int ships;
        final int[] part = new int[3 * MOST_JOKES];
        final int[] cargo = new int[MOST_SHIPS];
        final int[] keeps = new int[MOST_SHIPS];
        final int[] knows = new int[MOST_SHIPS];
        // At 8 * k + j: the jokes that have k parts or more alike to those of j, as bits.
        private final int[] near = new int[4 * MOST_JOKES];

        void clear() {
            there = false;
            fades = 0;
            like = 0;
            jokes = 0;
            ships = 0;
            Arrays.fill(knows, 0);
            Arrays.fill(near, 0);
        }

        void copyFrom(Told other) {
            there = other.there;
            fades = other.fades;
            like = other.like;
            jokes = other.jokes;
            ships = other.ships;
            System.arraycopy(other.part, 0, part, 0, part.length);
            System.arraycopy(other.cargo, 0, cargo, 0, MOST_SHIPS);
            System.arraycopy(other.keeps, 0, keeps, 0, MOST_SHIPS);
            System.arraycopy(other.knows, 0, knows, 0, MOST_SHIPS);
            System.arraycopy(other.near, 0, near, 0, near.length);
        }

        void addJoke(int set, int turn, int kin) {
            int added = jokes;
            part[3 * added] = set;
            part[3 * added + 1] = turn;
            part[3 * added + 2] = kin;
            jokes++;
            for (int joke = 0; joke < jokes; joke++) {
                int alike = partsAlike(joke, added);
                for (int k = 1; k <= alike; k++) {
                    near[MOST_JOKES * k + joke] |= 1 << added;
                    near[MOST_JOKES * k + added] |= 1 << joke;
                }
            }
        }

        void addShip(int itsCargo, int itsKeeps) {
            cargo[ships] = itsCargo;
            keeps[ships] = itsKeeps;
            ships++;
        }

        int partsAlike(int one, int other) {
            return countAlike(one, part[3 * other], part[3 * other + 1], part[3 * other + 2]);
        }

        private int countAlike(int joke, int set, int turn, int kin) {
            return (part[3 * joke] == set ? 1 : 0)
                    + (part[3 * joke + 1] == turn ? 1 : 0)
                    + (part[3 * joke + 2] == kin ? 1 : 0);
        }

        boolean isNew(int joke, int memory) {
            return (near[MOST_JOKES * like + joke] & memory) == 0;
        }

        int newOnes(int memory) {
            int bits = 0;
            for (int joke = 0; joke < jokes; joke++) {
                if (isNew(joke, memory)) {
                    bits |= 1 << joke;
                }
            }
            return bits;
        }

        int mostAlike(int joke, int memory) {
            if ((near[3 * MOST_JOKES + joke] & memory) != 0) {
                return 3;
            }
            if ((near[2 * MOST_JOKES + joke] & memory) != 0) {
                return 2;
            }
            return (near[MOST_JOKES + joke] & memory) != 0 ? 1 : 0;
        }

        int leastUnlike() {
            for (int number = 0; number < 1000; number++) {
                if (isUnlikeAll(number / 100, number / 10 % 10, number % 10)) {
                    return number;
                }
            }
            return -2;
        }

        private boolean isUnlikeAll(int set, int turn, int kin) {
            for (int joke = 0; joke < jokes; joke++) {
                if (countAlike(joke, set, turn, kin) >= like) {
                    return false;
                }
            }
            return true;
        }

        int remembered(Scene scene) {
            int bits = 0;
            for (int joke = 0; joke < jokes; joke++) {
                if (scene.tide - scene.heard[joke] < fades) {
                    bits |= 1 << joke;
                }
            }
            return bits;
        }

        int waiting(Scene scene) {
            int bits = 0;
            for (int ship = 0; ship < ships; ship++) {
                if (scene.passed[ship] == NONE) {
                    bits |= 1 << ship;
                }
            }
            return bits;
        }

        int passed(Scene scene) {
            return ships - Integer.bitCount(waiting(scene));
        }

        int earned(Scene scene) {
            int sum = 0;
            for (int ship = 0; ship < ships; ship++) {
                sum += earnedBy(ship, scene);
            }
            return sum;
        }

        int earnedBy(int ship, Scene scene) {
            int tide = scene.passed[ship];
            return tide != NONE && tide <= keeps[ship] ? cargo[ship] : 0;
        }

        int partOf(int purse, int ship, Scene scene) {
            int all = 0;
            for (int other = 0; other < ships; other++) {
                all += weight(other, scene);
            }
            if (all == 0) {
                return 0;
            }
            int left = purse;
            int ahead = 0;
            int lost = purse * weight(ship, scene) % all;
            for (int other = 0; other < ships; other++) {
                int share = purse * weight(other, scene);
                left -= share / all;
                if (share % all > lost || share % all == lost && other < ship) {
                    ahead++;
                }
            }
            return purse * weight(ship, scene) / all + (ahead < left ? 1 : 0);
        }

        private int weight(int ship, Scene scene) {
            return scene.passed[ship] == NONE ? 0 : cargo[ship];
        }
    }

    /** All that acts change. */
    private static final class Scene {
        static final int SIZE = 1 + MOST_JOKES + 2 * MOST_SHIPS;

        int tide;
        final int[] heard = new int[MOST_JOKES];
        final int[] knows = new int[MOST_SHIPS];
        final int[] passed = new int[MOST_SHIPS];

        Scene() {
            Arrays.fill(heard, NEVER);
            Arrays.fill(passed, NONE);
        }

        void begin(Told told) {
            tide = 0;
            Arrays.fill(heard, NEVER);
            Arrays.fill(passed, NONE);
            System.arraycopy(told.knows, 0, knows, 0, MOST_SHIPS);
        }

        void copyFrom(Scene other) {
            tide = other.tide;
            System.arraycopy(other.heard, 0, heard, 0, MOST_JOKES);
            System.arraycopy(other.knows, 0, knows, 0, MOST_SHIPS);
            System.arraycopy(other.passed, 0, passed, 0, MOST_SHIPS);
        }

        void store(int[] rows, int at) {
            rows[at] = tide;
            System.arraycopy(heard, 0, rows, at + 1, MOST_JOKES);
            System.arraycopy(knows, 0, rows, at + 1 + MOST_JOKES, MOST_SHIPS);
            System.arraycopy(passed, 0, rows, at + 1 + MOST_JOKES + MOST_SHIPS, MOST_SHIPS);
        }

        void restore(int[] rows, int at) {
            tide = rows[at];
            System.arraycopy(rows, at + 1, heard, 0, MOST_JOKES);
            System.arraycopy(rows, at + 1 + MOST_JOKES, knows, 0, MOST_SHIPS);
            System.arraycopy(rows, at + 1 + MOST_JOKES + MOST_SHIPS, passed, 0, MOST_SHIPS);
        }

        int since(int joke) {
            int tides = tide - heard[joke];
            return tides < 99 ? tides : 99;
        }

        boolean isKnown(int ship, int joke) {
            return (knows[ship] >> joke & 1) != 0;
        }

        // To all ships that wait.
        void teach(int jokes) {
            for (int ship = 0; ship < MOST_SHIPS; ship++) {
                if (passed[ship] == NONE) {
                    knows[ship] |= jokes;
                }
            }
        }

        int share(int one, int other) {
            int both = knows[one] | knows[other];
            knows[one] = both;
            knows[other] = both;
            return both;
        }
    }

    /** All that an image holds. */
    private static final class Book {
        final Told told = new Told();
        final Scene scene = new Scene();
        final int[] noteTide = new int[MOST_NOTES];
        final int[] noteShip = new int[MOST_NOTES];
        final int[] noteJoke = new int[MOST_NOTES];
        int notes;
        int acts;
        int x;
        int force = NONE;
        // A ring of the scenes ahead of the last acts, the next one's place in it at head.
        private final int[] past = new int[MOST_ACTS * Scene.SIZE];
        private int head;

        void open(Told read) {
            told.copyFrom(read);
            told.there = true;
            scene.begin(told);
            notes = 0;
            acts = 0;
        }

        void keepAct() {
            scene.store(past, head * Scene.SIZE);
            head = (head + 1) % MOST_ACTS;
            acts = Math.min(MOST_ACTS, acts + 1);
        }

        boolean undoAct() {
            if (acts == 0) {
                return false;
            }
            acts--;
            head = (head + MOST_ACTS - 1) % MOST_ACTS;
            scene.restore(past, head * Scene.SIZE);
            return true;
        }

        void addNote(int tide, int ship, int joke) {
            noteTide[notes] = tide;
            noteShip[notes] = ship;
            noteJoke[notes] = joke;
            notes++;
        }

        void copyFrom(Book other) {
            told.copyFrom(other.told);
            scene.copyFrom(other.scene);
            System.arraycopy(other.noteTide, 0, noteTide, 0, MOST_NOTES);
            System.arraycopy(other.noteShip, 0, noteShip, 0, MOST_NOTES);
            System.arraycopy(other.noteJoke, 0, noteJoke, 0, MOST_NOTES);
            System.arraycopy(other.past, 0, past, 0, past.length);
            notes = other.notes;
            acts = other.acts;
            x = other.x;
            force = other.force;
            head = other.head;
        }
    }

    /** Lets ships tell, in the scene that he has met, by a rule or by none. */
    private static final class Pilot {
        Rule rule;
        // What each ship told on the last tide.
        final int[] said = new int[MOST_SHIPS];
        private final Told told;
        private final int[] values = new int[Rule.ALL_WORDS];
        private Scene scene;
        private int memory;
        private int waiting;
        private boolean quiet;

        Pilot(Told told) {
            this.told = told;
            scene = new Scene();
        }

        // Must come ahead of turns and hears: what he remembers and who waits are kept beside the scene.
        void meet(Scene met) {
            scene = met;
            memory = told.remembered(met);
            waiting = told.waiting(met);
            quiet = true;
        }

        // Who passes, as bits.
        int oneTide(Scene met) {
            meet(met);
            int passes = turns(0, told.ships);
            met.tide++;
            return passes;
        }

        int turns(int from, int stop) {
            int passes = 0;
            for (int ship = from; ship < stop; ship++) {
                said[ship] = (waiting >> ship & 1) == 0 ? NONE : pick(ship);
                if (said[ship] != NONE && hears(ship, said[ship])) {
                    passes |= 1 << ship;
                }
            }
            return passes;
        }

        // Whether the ship passes.
        boolean hears(int ship, int joke) {
            boolean passes = told.isNew(joke, memory);
            if (passes) {
                scene.passed[ship] = scene.tide;
                waiting &= ~(1 << ship);
            }
            scene.heard[joke] = scene.tide;
            memory |= 1 << joke;
            quiet = false;
            return passes;
        }

        int leastNew(int ship) {
            int known = scene.knows[ship];
            for (int joke = 0; joke < told.jokes; joke++) {
                if ((known >> joke & 1) != 0 && told.isNew(joke, memory)) {
                    return joke;
                }
            }
            return NONE;
        }

        private int pick(int ship) {
            if (rule == null) {
                return leastNew(ship);
            }
            lookAtShip(ship);
            int known = scene.knows[ship];
            int best = NONE;
            long most = 0;
            for (int joke = 0; joke < told.jokes; joke++) {
                if ((known >> joke & 1) != 0) {
                    lookAtJoke(joke);
                    long worth = rule.worth(values);
                    if (worth > most) {
                        most = worth;
                        best = joke;
                    }
                }
            }
            return best;
        }

        private void lookAtShip(int ship) {
            int many = Integer.bitCount(waiting);
            values[Rule.SHIP] = ship;
            values[Rule.CARGO] = told.cargo[ship];
            values[Rule.KEEPS] = told.keeps[ship] - scene.tide;
            values[Rule.WAITING] = many;
            values[Rule.PASSED] = told.ships - many;
            values[Rule.TIDE] = scene.tide;
        }

        private void lookAtJoke(int joke) {
            values[Rule.JOKE] = joke;
            values[Rule.FRESH] = told.isNew(joke, memory) ? 1 : 0;
            values[Rule.SINCE] = scene.since(joke);
            // The dear words are reckoned only where they are asked for.
            values[Rule.LIKE] = rule.asksLike ? told.mostAlike(joke, memory) : 0;
            values[Rule.KNOWN] = rule.asksKnown ? howManyKnow(joke) : 0;
        }

        private int howManyKnow(int joke) {
            int many = 0;
            for (int ship = 0; ship < told.ships; ship++) {
                many += waiting >> ship & scene.knows[ship] >> joke & 1;
            }
            return many;
        }

        // It goes no further once fewer than so many ships wait.
        void goOn(Scene met, int tides, int fewest) {
            int last = met.tide + tides;
            for (int i = 0; i < tides && met.tide < last; i++) {
                meet(met);
                turns(0, told.ships);
                met.tide++;
                if (Integer.bitCount(waiting) < fewest) {
                    met.tide = last;
                } else if (quiet && (rule == null || !rule.timed)) {
                    met.tide = Math.min(last, nextFading());
                }
            }
        }

        // A tide on which nobody tells comes again just so until a joke fades.
        private int nextFading() {
            int next = LARGEST;
            for (int joke = 0; joke < told.jokes; joke++) {
                if ((memory >> joke & 1) != 0) {
                    next = Math.min(next, scene.heard[joke] + told.fades);
                }
            }
            return next;
        }
    }

    /** Answers questions on scenes of its own; what it finds stands in amount, first and second. */
    private static final class Asker {
        private static final int MOST_LEVELS = 5;

        int amount;
        int first;
        int second;
        final int[] choice = new int[4];
        private final Book book;
        private final Told told;
        private final Pilot pilot;
        private final Scene work = new Scene();
        private final Scene[] levels = new Scene[MOST_LEVELS];
        // Of none and of each rule: whether all notes are so by it, and what each ship tells by it.
        private final boolean[] isSo = new boolean[MOST_RULES + 1];
        private final int[] tells = new int[(MOST_RULES + 1) * MOST_SHIPS];
        private int x;

        Asker(Book book, Pilot pilot) {
            this.book = book;
            this.told = book.told;
            this.pilot = pilot;
            for (int i = 0; i < MOST_LEVELS; i++) {
                levels[i] = new Scene();
            }
        }

        Scene later(int tides) {
            work.copyFrom(book.scene);
            pilot.goOn(work, tides, 1);
            return work;
        }

        // The tide to amount, the joke to first.
        boolean findPassing(int ship) {
            work.copyFrom(book.scene);
            for (int i = 0; i < FAR_TIDES; i++) {
                amount = work.tide;
                if ((pilot.oneTide(work) >> ship & 1) != 0) {
                    first = pilot.said[ship];
                    return true;
                }
            }
            return false;
        }

        int placeOf(int ship) {
            Scene then = later(FAR_TIDES);
            int place = 0;
            for (int other = 0; other < told.ships; other++) {
                int its = passingOf(then, other);
                int mine = passingOf(then, ship);
                if (its < mine || its == mine && other < ship) {
                    place++;
                }
            }
            return place;
        }

        private static int passingOf(Scene then, int ship) {
            return then.passed[ship] == NONE ? LARGEST : then.passed[ship];
        }

        // After how many tides it passes, or NONE; the row to choice.
        int findRow(int ship, int tides) {
            for (int last = 0; last < tides; last++) {
                levels[0].copyFrom(book.scene);
                if (rowFound(ship, 0, last)) {
                    return last;
                }
            }
            return NONE;
        }

        // Shorter rows were all tried ahead of this one, so the ship still waits on each tide up to the last.
        private boolean rowFound(int ship, int at, int last) {
            Scene scene = levels[at];
            pilot.meet(scene);
            pilot.turns(0, ship);
            if (at >= last || at >= choice.length - 1) {
                choice[at] = pilot.leastNew(ship);
                return choice[at] != NONE;
            }
            Scene next = levels[at + 1];
            for (int joke = NONE; joke < told.jokes; joke++) {
                if (joke != NONE && !scene.isKnown(ship, joke)) {
                    continue;
                }
                next.copyFrom(scene);
                pilot.meet(next);
                if (joke != NONE) {
                    pilot.hears(ship, joke);
                }
                pilot.turns(ship + 1, told.ships);
                next.tide++;
                choice[at] = joke;
                if (rowFound(ship, at + 1, last)) {
                    return true;
                }
            }
            return false;
        }

        // The joke to first, what is earned to amount.
        void findForgotten(int tides) {
            int memory = told.remembered(book.scene);
            first = NONE;
            amount = NONE;
            for (int joke = NONE; joke < told.jokes; joke++) {
                if (joke != NONE && (memory >> joke & 1) == 0) {
                    continue;
                }
                work.copyFrom(book.scene);
                if (joke != NONE) {
                    work.heard[joke] = NEVER;
                }
                pilot.goOn(work, tides, 1);
                int earned = told.earned(work);
                if (earned > amount) {
                    amount = earned;
                    first = joke;
                }
            }
        }

        // The two ships to first and second, what is earned to amount.
        void findTraders(int tides) {
            int waiting = told.waiting(book.scene);
            first = NONE;
            second = NONE;
            amount = told.earned(later(tides));
            for (int one = 0; one < told.ships; one++) {
                for (int other = one + 1; other < told.ships; other++) {
                    if ((waiting >> one & waiting >> other & 1) == 0) {
                        continue;
                    }
                    work.copyFrom(book.scene);
                    work.share(one, other);
                    pilot.goOn(work, tides, 1);
                    int earned = told.earned(work);
                    if (earned > amount) {
                        amount = earned;
                        first = one;
                        second = other;
                    }
                }
            }
        }

        // The set, or NONE.
        int findLessons(int tides) {
            // A joke that all know anyway changes nothing, so it is in no fewest set.
            int known = commonJokes();
            for (int size = 0; size <= told.jokes; size++) {
                for (int set = 0; set < 1 << told.jokes; set++) {
                    if (Integer.bitCount(set) != size || (set & known) != 0) {
                        continue;
                    }
                    work.copyFrom(book.scene);
                    work.teach(set);
                    pilot.goOn(work, tides, 1);
                    if (told.waiting(work) == 0) {
                        return set;
                    }
                }
            }
            return NONE;
        }

        private int commonJokes() {
            int jokes = -1;
            for (int ship = 0; ship < told.ships; ship++) {
                if (book.scene.passed[ship] == NONE) {
                    jokes &= book.scene.knows[ship];
                }
            }
            return jokes;
        }

        // How many sets to amount, the least to first, what is in all to second.
        void findOldSets(Rule rule, int tides, int many) {
            // Ships that have passed never wait again, so one too many settles a set.
            int fewest = Math.max(1, told.ships - many);
            pilot.rule = rule;
            amount = 0;
            first = NONE;
            second = -1;
            for (int set = 0; set < 1 << told.jokes; set++) {
                work.begin(told);
                for (int joke = 0; joke < told.jokes; joke++) {
                    work.heard[joke] = (set >> joke & 1) != 0 ? -1 : NEVER;
                }
                pilot.goOn(work, tides, fewest);
                if (told.passed(work) == many) {
                    first = amount == 0 ? set : first;
                    second &= set;
                    amount++;
                }
            }
        }

        // The worth to amount, what the first one tells first to first.
        void playGame(int one, int other, int turns) {
            levels[0].copyFrom(book.scene);
            amount = gameWorth(one, other, 0, turns);
            first = choice[0];
        }

        // What the one to move can win over the other one in the turns left; its best joke to choice.
        private int gameWorth(int mover, int other, int at, int turns) {
            if (at >= turns || at >= MOST_LEVELS - 1) {
                return 0;
            }
            Scene scene = levels[at];
            Scene next = levels[at + 1];
            int most = -LARGEST;
            for (int joke = NONE; joke < told.jokes; joke++) {
                if (joke != NONE && (scene.passed[mover] != NONE || !scene.isKnown(mover, joke))) {
                    continue;
                }
                next.copyFrom(scene);
                int won = 0;
                if (joke != NONE) {
                    pilot.meet(next);
                    won = pilot.hears(mover, joke) ? told.earnedBy(mover, next) : 0;
                }
                next.tide++;
                won -= gameWorth(other, mover, at + 1, turns);
                if (won > most) {
                    most = won;
                    choice[at] = joke;
                }
            }
            return most;
        }

        // How many of none and the rules are so to amount, the first to first.
        void tryRules(Rule[] rules, int ruleCount, int tide) {
            amount = 0;
            first = NONE;
            for (int rule = NONE; rule < ruleCount; rule++) {
                pilot.rule = rule == NONE ? null : rules[rule];
                boolean so = allNotesHold(tide, (rule + 1) * MOST_SHIPS);
                isSo[rule + 1] = so;
                if (so) {
                    first = amount == 0 ? rule : first;
                    amount++;
                }
            }
        }

        // What the ships tell on the tide that is asked for goes to tells.
        private boolean allNotesHold(int tide, int at) {
            int last = tide;
            for (int i = 0; i < book.notes; i++) {
                last = Math.max(last, book.noteTide[i]);
            }
            work.begin(told);
            for (int now = 0; now <= last; now++) {
                pilot.oneTide(work);
                if (!notesHold(now)) {
                    return false;
                }
                if (now == tide) {
                    System.arraycopy(pilot.said, 0, tells, at, MOST_SHIPS);
                }
            }
            return true;
        }

        private boolean notesHold(int now) {
            for (int i = 0; i < book.notes; i++) {
                if (book.noteTide[i] == now && book.noteJoke[i] != pilot.said[book.noteShip[i]]) {
                    return false;
                }
            }
            return true;
        }

        // The ship to first, the most alike to amount; tryRules must come ahead.
        void findParting(int ruleCount) {
            first = NONE;
            amount = LARGEST;
            for (int ship = 0; ship < told.ships; ship++) {
                int most = 0;
                for (int rule = 0; rule <= ruleCount; rule++) {
                    most = Math.max(most, howManyTellAs(rule, ruleCount, ship));
                }
                if (most < amount) {
                    amount = most;
                    first = ship;
                }
            }
        }

        private int howManyTellAs(int rule, int ruleCount, int ship) {
            int many = 0;
            for (int other = 0; isSo[rule] && other <= ruleCount; other++) {
                if (isSo[other] && tells[other * MOST_SHIPS + ship] == tells[rule * MOST_SHIPS + ship]) {
                    many++;
                }
            }
            return many;
        }

        // What is earned to amount, how many have passed to first.
        void drawYears(int times, int tides, int percent) {
            x = book.x;
            amount = 0;
            first = 0;
            for (int i = 0; i < times; i++) {
                work.copyFrom(book.scene);
                for (int j = 0; j < tides; j++) {
                    hearParrot(percent);
                    pilot.oneTide(work);
                }
                amount += told.earned(work) - told.earned(book.scene);
                first += told.passed(work);
            }
        }

        private void hearParrot(int percent) {
            if (draw() % 100 < percent && told.jokes > 0) {
                work.heard[draw() % told.jokes] = work.tide;
            }
        }

        private int draw() {
            x = x * 1103515245 + 12345 & LARGEST;
            return x / 65536;
        }
    }
}
