import java.util.Arrays;

/**
 * An office that writes a title only upon a proof, step by step, from papers by rules told as texts.
 * The words in capitals are those of the document.
 */
public final class DeedProofs {
    public static final int NONE = -1, BAD = -2, STATE = -3, FULL = -4;

    /** Answers that are no refusals: nothing of the kind, another KIND, and what a FAULT is taken from. */
    private static final int NOTHING = -5, OTHER_KIND = -6, FAULTS = -10;

    private static final int FACTS = 750, SHAPES_APART = 125, DAYS = 1000, PERSONS = 5, KINDS = 5, LETTERINGS = 625;
    private static final int MOST_BYTES = 120, MOST_RULES = 8, MOST_CHANGES = 12, MOST_PAPERS = 20, MOST_PROOFS = 12;
    private static final int MOST_STEPS = 12, MOST_TITLES = 10, MOST_TACTICS = 6, MOST_TERMS = 3, MOST_TESTS = 4;
    private static final int MOST_CHOSEN = 6, MOST_OPEN = 6, MOST_SPENT = 200, LARGEST_SIZE = 100000;

    /** Places of Book.counts, which are those that count(what) tells. */
    private static final int TODAY = 0, RULES = 1, CHANGES = 2, PAPERS = 3, PROOFS = 4, TITLES = 5, TACTICS = 6,
            BYTES = 7, COUNTS = 8;

    /** From what a TERM is taken. */
    private static final int FROM_STEP = 100, FROM_PROOF = 200, FROM_HOLE = 300;

    /** Places in a STEP's row; the TERMS' sources stand from SOURCES on. */
    private static final int RULE = 0, LETTERS = 1, TERMS = 2, SOURCES = 3, ROW = 6;

    private static final int LINE = 0, PIECE = 1, SHARED = 2, CUT = 3, OPEN = 4;

    /** The KIND above each KIND. */
    private static final int[] ABOVE = {-1, LINE, LINE, LINE, PIECE};

    private final Book book = new Book();
    private final Judge judge = new Judge(book);
    private final Reach reach = new Reach(book);
    private final Tactician tactician = new Tactician(book, reach);
    private final RuleReader reader = new RuleReader(book);
    private final Line[] kinds = {new Line(), new Piece(), new Shared(), new Cut(), new Open()};
    private Book kept = null;

    public DeedProofs() {
    }

    // ---- days, rules

    public int day(int n) {
        int today = book.counts[TODAY];
        if (n < 1 || n > 99 || today + n >= DAYS) {
            return BAD;
        }
        book.counts[TODAY] = today + n;
        return today + n;
    }

    public int feed(long w, int n) {
        if (n < 1 || n > 8) {
            return BAD;
        }
        int size = book.counts[BYTES];
        if (size + n > MOST_BYTES) {
            return FULL;
        }
        for (int i = 0; i < n; i++) {
            book.tape[size + i] = (byte) (w >>> (8 * (n - 1 - i)));
        }
        book.counts[BYTES] = size + n;
        return size + n;
    }

    public int rule() {
        int number = book.counts[RULES];
        if (number >= MOST_RULES) {
            return FULL;
        }
        int fault = reader.read(book.texts[number]);
        if (fault >= 0) {
            return FAULTS - fault;
        }
        book.counts[RULES] = number + 1;
        return number;
    }

    public int change(int rule, int day) {
        if (!book.has(RULES, rule)) {
            return NONE;
        }
        if (day < book.counts[TODAY] || day >= DAYS) {
            return BAD;
        }
        int number = book.counts[CHANGES];
        if (number >= MOST_CHANGES) {
            return FULL;
        }
        int fault = reader.read(book.texts[MOST_RULES + number]);
        if (fault >= 0) {
            return FAULTS - fault;
        }
        book.changeRule[number] = rule;
        book.changeDay[number] = day;
        book.counts[CHANGES] = number + 1;
        return number + 1;
    }

    public int told(int rule, int day, int what) {
        if (!book.has(RULES, rule) || what < 0 || what > 2) {
            return NONE;
        }
        if (!isDay(day)) {
            return BAD;
        }
        if (what == 2) {
            int change = book.changeOn(rule, day);
            return change < 0 ? NOTHING : change;
        }
        Text text = book.textOn(rule, day);
        return what == 0 ? text.terms : text.tests;
    }

    // ---- papers, what follows

    public int paper(int fact, int person) {
        if (!isPerson(person)) {
            return NONE;
        }
        if (!isFact(fact)) {
            return BAD;
        }
        int number = book.counts[PAPERS];
        if (number >= MOST_PAPERS) {
            return FULL;
        }
        book.paperFact[number] = fact;
        book.paperPerson[number] = person;
        book.truePapers |= 1 << number;
        book.counts[PAPERS] = number + 1;
        return number;
    }

    public int shown(int paper, boolean so) {
        if (!book.has(PAPERS, paper)) {
            return NONE;
        }
        int before = book.isTrue(paper) ? 0 : 1;
        int bit = 1 << paper;
        book.truePapers = so ? book.truePapers & ~bit : book.truePapers | bit;
        return before;
    }

    public int of(int paper, int what) {
        if (!book.has(PAPERS, paper) || what < 0 || what > 2) {
            return NONE;
        }
        if (what == 0) {
            return book.paperFact[paper];
        }
        if (what == 1) {
            return book.paperPerson[paper];
        }
        return book.isTrue(paper) ? 0 : 1;
    }

    public int follows(int fact, int day, int what) {
        if (what < 0 || what > 2) {
            return NONE;
        }
        if (!isFact(fact) || !isDay(day)) {
            return BAD;
        }
        reach.spread(day, book.truePapers, what == 2);
        if (what == 0) {
            return reach.has(fact) ? 1 : 0;
        }
        return reach.has(fact) ? reach.cost[fact] : NOTHING;
    }

    public int many(int day) {
        if (!isDay(day)) {
            return BAD;
        }
        reach.spread(day, book.truePapers, false);
        return reach.size;
    }

    // ---- proofs

    public int proof(int kind) {
        if (!isKind(kind)) {
            return NONE;
        }
        int number = book.counts[PROOFS];
        if (number >= MOST_PROOFS) {
            return FULL;
        }
        book.proofKind[number] = kind;
        book.stepCount[number] = 0;
        book.counts[PROOFS] = number + 1;
        return number;
    }

    public int step(int proof, int rule, int letters, int terms, int first, int second, int third) {
        if (!book.has(PROOFS, proof) || !book.has(RULES, rule)) {
            return NONE;
        }
        if (letters < 0 || letters >= LETTERINGS || terms < 1 || terms > MOST_TERMS) {
            return BAD;
        }
        if (book.isTitled(proof) || book.isUsed(proof)) {
            return STATE;
        }
        int number = book.stepCount[proof];
        if (number >= MOST_STEPS) {
            return FULL;
        }
        int row = book.rowOf(proof, number);
        book.stepRows[row + RULE] = rule;
        book.stepRows[row + LETTERS] = letters;
        book.stepRows[row + TERMS] = terms;
        book.stepRows[row + SOURCES] = first;
        book.stepRows[row + SOURCES + 1] = second;
        book.stepRows[row + SOURCES + 2] = third;
        book.stepCount[proof] = number + 1;
        return number;
    }

    public int lacks(int proof, int step, int day) {
        if (!book.hasStep(proof, step)) {
            return NONE;
        }
        if (!isDay(day)) {
            return BAD;
        }
        judge.weigh(proof, day, book.truePapers);
        return judge.lack[proof * MOST_STEPS + step];
    }

    public int says(int proof, int step, int day) {
        if (!book.has(PROOFS, proof) || (step != -1 && !book.hasStep(proof, step))) {
            return NONE;
        }
        if (!isDay(day)) {
            return BAD;
        }
        int told = step == -1 ? book.stepCount[proof] - 1 : step;
        return told < 0 ? NOTHING : judge.factOfStep(proof, told, day);
    }

    public int check(int proof, int day) {
        if (!book.has(PROOFS, proof)) {
            return NONE;
        }
        if (!isDay(day)) {
            return BAD;
        }
        judge.weigh(proof, day, book.truePapers);
        return judge.taken[proof] ? 1 : 0;
    }

    public int leans(int proof) {
        return book.has(PROOFS, proof) ? judge.papersUnder(proof) : NONE;
    }

    public int hole(int proof, int i) {
        if (!book.has(PROOFS, proof) || i < -1) {
            return NONE;
        }
        if (i == -1) {
            return book.holesOf(proof);
        }
        int place = book.placeOfHole(proof, i);
        return place < 0 ? NONE : place;
    }

    public int fill(int proof, int from) {
        if (!book.has(PROOFS, proof)) {
            return NONE;
        }
        int place = book.placeOfHole(proof, 0);
        if (place < 0) {
            return STATE;
        }
        int step = place / 10;
        int term = place % 10;
        int said = judge.saidBy(proof, step, from);
        if (said < 0 || said != judge.factOfTerm(proof, step, term)) {
            return STATE;
        }
        book.stepRows[book.rowOf(proof, step) + SOURCES + term] = from;
        return book.holesOf(proof);
    }

    public int act(int proof, int act, int x) {
        if (!book.has(PROOFS, proof) || act < 0 || act > 2) {
            return 0;
        }
        Line kind = kinds[book.proofKind[proof]];
        int steps = book.stepCount[proof];
        if (act == 0) {
            return kind.actLeans(x, proof, steps);
        }
        return act == 1 ? kind.actShows(x, proof, steps) : kind.actEnds(x, proof, steps);
    }

    public int as(int proof, int k) {
        if (!book.has(PROOFS, proof) || !isKind(k)) {
            return NONE;
        }
        int kind = book.proofKind[proof];
        for (int up = 0; up < KINDS && kind != k; up++) {
            kind = kind < 0 ? kind : ABOVE[kind];
        }
        return kind == k ? book.stepCount[proof] : OTHER_KIND;
    }

    // ---- titles

    public int title(int proof) {
        if (!book.has(PROOFS, proof)) {
            return NONE;
        }
        int today = book.counts[TODAY];
        judge.weigh(proof, today, book.truePapers);
        if (!judge.taken[proof]) {
            return STATE;
        }
        int fact = judge.factOfStep(proof, book.stepCount[proof] - 1, today);
        if (book.isTitleOf(fact)) {
            return STATE;
        }
        int number = book.counts[TITLES];
        if (number >= MOST_TITLES) {
            return FULL;
        }
        book.titleProof[number] = proof;
        book.titleFact[number] = fact;
        book.titleDay[number] = today;
        book.counts[TITLES] = number + 1;
        return number;
    }

    public int stand(int title, int day) {
        if (!book.has(TITLES, title)) {
            return NONE;
        }
        if (!isDay(day) || day < book.titleDay[title]) {
            return BAD;
        }
        if (standsByProof(title, book.truePapers)) {
            return 1;
        }
        reach.spread(day, book.truePapers, false);
        return reach.has(book.titleFact[title]) ? 2 : 0;
    }

    public int fall(int paper) {
        if (!book.has(PAPERS, paper)) {
            return NONE;
        }
        if (!book.isTrue(paper)) {
            return STATE;
        }
        return standingToday(book.truePapers) & ~standingToday(book.truePapers & ~(1 << paper));
    }

    public int carry(int title, int day) {
        if (!book.has(TITLES, title)) {
            return NONE;
        }
        if (!isDay(day)) {
            return BAD;
        }
        int proof = book.titleProof[title];
        judge.weigh(proof, day, book.truePapers);
        for (int step = 0; step < book.stepCount[proof]; step++) {
            if (judge.lack[proof * MOST_STEPS + step] != 0) {
                return step;
            }
        }
        return NOTHING;
    }

    public int clash(int a, int b) {
        if (!book.has(TITLES, a) || !book.has(TITLES, b)) {
            return NONE;
        }
        if (a == b) {
            return BAD;
        }
        int one = book.titleFact[a];
        int other = book.titleFact[b];
        boolean owned = one < SHAPES_APART && other < SHAPES_APART;
        if (!owned || one / 5 % 5 != other / 5 % 5 || one / 25 == other / 25) {
            return NOTHING;
        }
        return judge.papersUnder(book.titleProof[a]) ^ judge.papersUnder(book.titleProof[b]);
    }

    public int every(int fact) {
        if (!isFact(fact)) {
            return BAD;
        }
        int papers = book.truePapers;
        if (!followsToday(fact, papers)) {
            return NOTHING;
        }
        int needed = 0;
        for (int p = 0; p < book.counts[PAPERS]; p++) {
            if (book.isTrue(p) && !followsToday(fact, papers & ~(1 << p))) {
                needed |= 1 << p;
            }
        }
        return needed;
    }

    public int enough(int fact, int papers) {
        if (!isFact(fact) || (papers & ~book.truePapers) != 0 || Integer.bitCount(papers) > MOST_CHOSEN) {
            return BAD;
        }
        return fewest(fact, papers, 0);
    }

    public int could(int person, int fact) {
        if (!isPerson(person)) {
            return NONE;
        }
        if (!isFact(fact)) {
            return BAD;
        }
        int own = 0;
        int others = 0;
        for (int p = 0; p < book.counts[PAPERS]; p++) {
            if (book.isTrue(p) && book.paperPerson[p] == person) {
                own |= 1 << p;
            } else if (book.isTrue(p) && Integer.bitCount(others) < MOST_CHOSEN) {
                others |= 1 << p;
            }
        }
        return fewest(fact, others, own);
    }

    // ---- tactics

    public int tactic() {
        int number = book.counts[TACTICS];
        if (number >= MOST_TACTICS) {
            return FULL;
        }
        int size = book.counts[BYTES];
        int fault = Tactician.faultOf(book.tape, size);
        book.counts[BYTES] = 0;
        if (fault >= 0) {
            return FAULTS - fault;
        }
        System.arraycopy(book.tape, 0, book.tacticBytes, number * MOST_BYTES, size);
        book.tacticSize[number] = size;
        book.counts[TACTICS] = number + 1;
        return number;
    }

    public int run(int tactic, int n, int what) {
        if (!book.has(TACTICS, tactic) || what < 0 || what > 1) {
            return NONE;
        }
        if (n < 1 || n > MOST_SPENT) {
            return BAD;
        }
        tactician.play(tactic, n);
        for (int fact = 0; fact < FACTS; fact++) {
            book.found[fact] = reach.has(fact);
        }
        book.hasRun = true;
        return what == 0 ? reach.size : tactician.spent;
    }

    public int found(int fact) {
        if (!isFact(fact)) {
            return BAD;
        }
        if (!book.hasRun) {
            return STATE;
        }
        return book.found[fact] ? 1 : 0;
    }

    // ---- the image

    public int image() {
        if (kept == null) {
            kept = new Book();
        }
        kept.become(book);
        return book.counts[TODAY];
    }

    public int undo() {
        if (kept == null) {
            return STATE;
        }
        book.become(kept);
        return book.counts[TODAY];
    }

    public int count(int what) {
        return what < 0 || what >= COUNTS ? NONE : book.counts[what];
    }

    // ---- what several calls use

    private static boolean isDay(int day) {
        return day >= 0 && day < DAYS;
    }

    private static boolean isFact(int fact) {
        return fact >= 0 && fact < FACTS;
    }

    private static boolean isPerson(int person) {
        return person >= 0 && person < PERSONS;
    }

    private static boolean isKind(int kind) {
        return kind >= 0 && kind < KINDS;
    }

    private boolean followsToday(int fact, int papers) {
        reach.spread(book.counts[TODAY], papers, false);
        return reach.has(fact);
    }

    private boolean standsByProof(int title, int papers) {
        int proof = book.titleProof[title];
        judge.weigh(proof, book.titleDay[title], papers);
        return judge.taken[proof];
    }

    /** TITLES that would stand today, in any way, if these PAPERS alone were not FALSE; as bits. */
    private int standingToday(int papers) {
        reach.spread(book.counts[TODAY], papers, false);
        int standing = 0;
        for (int t = 0; t < book.counts[TITLES]; t++) {
            if (reach.has(book.titleFact[t]) || standsByProof(t, papers)) {
                standing |= 1 << t;
            }
        }
        return standing;
    }

    /** The fewest of a set, the least as bits, by which and by others that are had anyway a FACT follows today. */
    private int fewest(int fact, int set, int had) {
        if (!followsToday(fact, set | had)) {
            return NOTHING;
        }
        int best = set;
        int left = 1 << MOST_CHOSEN;
        // Subsets come in rising order, so that of several as few the first is the least.
        for (int sub = 0; sub != set && left > 0; sub = (sub - set) & set) {
            left--;
            if (Integer.bitCount(sub) < Integer.bitCount(best) && followsToday(fact, sub | had)) {
                best = sub;
            }
        }
        return best;
    }

    /** A RULE's text: its TERMS, its TESTS and its END. An ARG is 0 .. 4 for a digit, 5 .. 8 for the letters a .. d. */
    private static final class Text {
        private static final int ARGS = 9, FIRST_LETTER = 5, END = 3, LESS = 0, SAME = 1;

        private int terms = 0;
        private int tests = 0;
        private int termLetters = 0;
        /** Of each TERM, and of the END behind them: its SHAPE and three ARGS. */
        private final int[] parts = new int[4 * (MOST_TERMS + 1)];
        /** Of each TEST: its letter, its sign and the ARG behind that. */
        private final int[] checks = new int[3 * MOST_TESTS];

        /** What ARGS are, by their numbers: the digits themselves, and room for the letters. */
        private static int[] newValues() {
            int[] values = new int[ARGS];
            for (int digit = 0; digit < FIRST_LETTER; digit++) {
                values[digit] = digit;
            }
            return values;
        }

        private static void putLetters(int letters, int[] values) {
            values[FIRST_LETTER] = letters / 125 % 5;
            values[FIRST_LETTER + 1] = letters / 25 % 5;
            values[FIRST_LETTER + 2] = letters / 5 % 5;
            values[FIRST_LETTER + 3] = letters % 5;
        }

        private boolean hasInTerms(int letter) {
            return (termLetters >> letter & 1) != 0;
        }

        private int factOf(int term, int[] values) {
            int at = 4 * term;
            return SHAPES_APART * parts[at] + 25 * values[parts[at + 1]] + 5 * values[parts[at + 2]]
                    + values[parts[at + 3]];
        }

        private boolean testsHold(int[] values) {
            for (int t = 0; t < tests; t++) {
                int left = values[checks[3 * t]];
                int right = values[checks[3 * t + 2]];
                int sign = checks[3 * t + 1];
                boolean holds = sign == LESS ? left < right : (left == right) == (sign == SAME);
                if (!holds) {
                    return false;
                }
            }
            return true;
        }

        private void become(Text other) {
            terms = other.terms;
            tests = other.tests;
            termLetters = other.termLetters;
            System.arraycopy(other.parts, 0, parts, 0, parts.length);
            System.arraycopy(other.checks, 0, checks, 0, checks.length);
        }
    }

    /** Reads RULES from THE TAPE; where it can't go on, its place is the FAULT. */
    private static final class RuleReader {
        private static final int UNTOLD_LETTER = 200;
        private static final String SHAPES = "oshmlw", SIGNS = "<=#", ARG_SIGNS = "01234abcd";

        private final Book book;
        private int size = 0;
        private int at = 0;
        private Text text = new Text();
        /** Letters of the END and of TESTS, as bits. */
        private int askedLetters = 0;

        private RuleReader(Book office) {
            book = office;
        }

        /** The FAULT; -1: there is none, and the text is read. THE TAPE is empty then, with a FAULT too. */
        private int read(Text into) {
            size = Math.min(book.counts[BYTES], book.tape.length);
            book.counts[BYTES] = 0;
            at = 0;
            text = into;
            askedLetters = 0;
            into.terms = 0;
            into.tests = 0;
            into.termLetters = 0;
            if (!readParts() || !readTerm(Text.END) || at < size) {
                return at;
            }
            return (askedLetters & ~into.termLetters) != 0 ? UNTOLD_LETTER : -1;
        }

        private boolean readParts() {
            for (int part = 0; part < MOST_TERMS + MOST_TESTS; part++) {
                if (!readPart()) {
                    return false;
                }
                if (text.terms > 0 && skip('>')) {
                    return true;
                }
                boolean more = text.terms < MOST_TERMS || text.tests < MOST_TESTS;
                if (!more || !skip('&')) {
                    return false;
                }
            }
            return false;
        }

        private boolean readPart() {
            if (text.terms < MOST_TERMS && placeIn(SHAPES) >= 0) {
                text.terms++;
                return readTerm(text.terms - 1);
            }
            if (text.tests < MOST_TESTS && placeIn(ARG_SIGNS) >= Text.FIRST_LETTER) {
                text.tests++;
                return readTest(text.tests - 1);
            }
            return false;
        }

        private boolean readTerm(int slot) {
            int shape = placeIn(SHAPES);
            if (shape < 0) {
                return false;
            }
            at++;
            text.parts[4 * slot] = shape;
            for (int arg = 1; arg <= 3; arg++) {
                if (!skip(arg == 1 ? '(' : ',')) {
                    return false;
                }
                int code = readArg(slot == Text.END);
                if (code < 0) {
                    return false;
                }
                text.parts[4 * slot + arg] = code;
            }
            return skip(')');
        }

        private boolean readTest(int slot) {
            int letter = readArg(true);
            int sign = placeIn(SIGNS);
            if (letter < 0 || sign < 0) {
                return false;
            }
            at++;
            int right = readArg(true);
            if (right < 0) {
                return false;
            }
            text.checks[3 * slot] = letter;
            text.checks[3 * slot + 1] = sign;
            text.checks[3 * slot + 2] = right;
            return true;
        }

        /** An ARG's number, -1 if there is none; a letter is marked as asked for, or as told by a TERM. */
        private int readArg(boolean asked) {
            int code = placeIn(ARG_SIGNS);
            if (code < 0) {
                return -1;
            }
            at++;
            if (code >= Text.FIRST_LETTER && asked) {
                askedLetters |= 1 << code;
            } else if (code >= Text.FIRST_LETTER) {
                text.termLetters |= 1 << code;
            }
            return code;
        }

        /** Where the byte that comes next stands among signs; -1: nowhere. */
        private int placeIn(String signs) {
            if (at >= size) {
                return -1;
            }
            for (int i = 0; i < signs.length(); i++) {
                if (signs.charAt(i) == book.tape[at]) {
                    return i;
                }
            }
            return -1;
        }

        private boolean skip(char sign) {
            if (at >= size || book.tape[at] != sign) {
                return false;
            }
            at++;
            return true;
        }
    }

    /** All that there is, but THE IMAGE. */
    private static final class Book {
        private final int[] counts = new int[COUNTS];
        private final byte[] tape = new byte[MOST_BYTES];
        /** The RULES' own texts, and behind them those of the changes. */
        private final Text[] texts = new Text[MOST_RULES + MOST_CHANGES];
        private final int[] changeRule = new int[MOST_CHANGES];
        private final int[] changeDay = new int[MOST_CHANGES];
        private final int[] paperFact = new int[MOST_PAPERS];
        private final int[] paperPerson = new int[MOST_PAPERS];
        /** PAPERS that there are and that aren't FALSE, as bits. */
        private int truePapers = 0;
        private final int[] proofKind = new int[MOST_PROOFS];
        private final int[] stepCount = new int[MOST_PROOFS];
        private final int[] stepRows = new int[MOST_PROOFS * MOST_STEPS * ROW];
        private final int[] titleProof = new int[MOST_TITLES];
        private final int[] titleFact = new int[MOST_TITLES];
        private final int[] titleDay = new int[MOST_TITLES];
        private final int[] tacticSize = new int[MOST_TACTICS];
        private final byte[] tacticBytes = new byte[MOST_TACTICS * MOST_BYTES];
        private final boolean[] found = new boolean[FACTS];
        private boolean hasRun = false;

        private Book() {
            for (int t = 0; t < texts.length; t++) {
                texts[t] = new Text();
            }
        }

        private void become(Book other) {
            System.arraycopy(other.counts, 0, counts, 0, counts.length);
            System.arraycopy(other.tape, 0, tape, 0, tape.length);
            for (int t = 0; t < texts.length; t++) {
                texts[t].become(other.texts[t]);
            }
            System.arraycopy(other.changeRule, 0, changeRule, 0, changeRule.length);
            System.arraycopy(other.changeDay, 0, changeDay, 0, changeDay.length);
            System.arraycopy(other.paperFact, 0, paperFact, 0, paperFact.length);
            System.arraycopy(other.paperPerson, 0, paperPerson, 0, paperPerson.length);
            truePapers = other.truePapers;
            System.arraycopy(other.proofKind, 0, proofKind, 0, proofKind.length);
            System.arraycopy(other.stepCount, 0, stepCount, 0, stepCount.length);
            System.arraycopy(other.stepRows, 0, stepRows, 0, stepRows.length);
            System.arraycopy(other.titleProof, 0, titleProof, 0, titleProof.length);
            System.arraycopy(other.titleFact, 0, titleFact, 0, titleFact.length);
            System.arraycopy(other.titleDay, 0, titleDay, 0, titleDay.length);
            System.arraycopy(other.tacticSize, 0, tacticSize, 0, tacticSize.length);
            System.arraycopy(other.tacticBytes, 0, tacticBytes, 0, tacticBytes.length);
            System.arraycopy(other.found, 0, found, 0, found.length);
            hasRun = other.hasRun;
        }

        /** Whether there is one of this number, of RULES, PAPERS, PROOFS, TITLES or TACTICS. */
        private boolean has(int what, int number) {
            return number >= 0 && number < counts[what];
        }

        private boolean hasStep(int proof, int step) {
            return has(PROOFS, proof) && step >= 0 && step < stepCount[proof];
        }

        private boolean isTrue(int paper) {
            return has(PAPERS, paper) && (truePapers >> paper & 1) != 0;
        }

        /** The change by which a RULE has its text on a DAY; -1: none, it has its own. */
        private int changeOn(int rule, int day) {
            int latest = -1;
            for (int c = 0; c < counts[CHANGES]; c++) {
                boolean inForce = changeRule[c] == rule && changeDay[c] <= day;
                if (inForce && (latest < 0 || changeDay[c] >= changeDay[latest])) {
                    latest = c;
                }
            }
            return latest;
        }

        private Text textOn(int rule, int day) {
            int change = changeOn(rule, day);
            return change < 0 ? texts[rule] : texts[MOST_RULES + change];
        }

        private int rowOf(int proof, int step) {
            return (proof * MOST_STEPS + step) * ROW;
        }

        private boolean takesHoles(int proof) {
            return proofKind[proof] == PIECE || proofKind[proof] == OPEN;
        }

        private boolean takesEnds(int proof) {
            return proofKind[proof] == SHARED || proofKind[proof] == CUT;
        }

        /** The PROOF whose end a source is to a PROOF, TAKEN or not; -1: it is no end in that KIND. */
        private int endIn(int proof, int source) {
            boolean lesser = source >= FROM_PROOF && source < FROM_PROOF + proof;
            return lesser && takesEnds(proof) ? source - FROM_PROOF : -1;
        }

        private boolean isTitled(int proof) {
            for (int t = 0; t < counts[TITLES]; t++) {
                if (titleProof[t] == proof) {
                    return true;
                }
            }
            return false;
        }

        private boolean isTitleOf(int fact) {
            for (int t = 0; t < counts[TITLES]; t++) {
                if (titleFact[t] == fact) {
                    return true;
                }
            }
            return false;
        }

        /** Whether a STEP of a later PROOF names this PROOF's end, in a KIND that takes ends. */
        private boolean isUsed(int proof) {
            for (int p = proof + 1; p < counts[PROOFS]; p++) {
                if (takesEnds(p) && countSources(p, FROM_PROOF + proof) > 0) {
                    return true;
                }
            }
            return false;
        }

        private int holesOf(int proof) {
            return takesHoles(proof) ? countSources(proof, FROM_HOLE) : 0;
        }

        private int countSources(int proof, int source) {
            int count = 0;
            for (int s = 0; s < stepCount[proof]; s++) {
                int row = rowOf(proof, s);
                for (int k = 0; k < stepRows[row + TERMS]; k++) {
                    count += stepRows[row + SOURCES + k] == source ? 1 : 0;
                }
            }
            return count;
        }

        /** Of the i-th HOLE 10 times its STEP and its TERM; -1: there is none. */
        private int placeOfHole(int proof, int i) {
            if (!takesHoles(proof)) {
                return -1;
            }
            int left = i;
            for (int s = 0; s < stepCount[proof]; s++) {
                int row = rowOf(proof, s);
                for (int k = 0; k < stepRows[row + TERMS]; k++) {
                    boolean hole = stepRows[row + SOURCES + k] == FROM_HOLE;
                    if (hole && left == 0) {
                        return 10 * s + k;
                    }
                    left -= hole ? 1 : 0;
                }
            }
            return -1;
        }
    }

    /** The kernel: takes each STEP, or says what it lacks. */
    private static final class Judge {
        private final Book book;
        private final int[] lack = new int[MOST_PROOFS * MOST_STEPS];
        private final int[] fact = new int[MOST_PROOFS * MOST_STEPS];
        private final boolean[] taken = new boolean[MOST_PROOFS];
        private final int[] under = new int[MOST_PROOFS];
        private final int[] values = Text.newValues();
        private int papers = 0;

        private Judge(Book office) {
            book = office;
        }

        /** Weighs a PROOF on a DAY, if these PAPERS alone aren't FALSE; those of lesser numbers first, it may use their ends. */
        private void weigh(int proof, int day, int truePapers) {
            papers = truePapers;
            for (int p = 0; p <= proof; p++) {
                int steps = book.stepCount[p];
                boolean good = steps > 0;
                for (int s = 0; s < steps; s++) {
                    int place = p * MOST_STEPS + s;
                    fact[place] = factOfStep(p, s, day);
                    lack[place] = lackOf(p, s, day);
                    good = good && lack[place] == 0;
                }
                taken[p] = good && (book.proofKind[p] == OPEN || book.holesOf(p) == 0);
            }
        }

        private int lackOf(int proof, int step, int day) {
            int row = book.rowOf(proof, step);
            int terms = book.stepRows[row + TERMS];
            Text text = book.textOn(book.stepRows[row + RULE], day);
            if (text.terms != terms) {
                return 1;
            }
            Text.putLetters(book.stepRows[row + LETTERS], values);
            if (!text.testsHold(values)) {
                return 2;
            }
            for (int k = 0; k < terms; k++) {
                int source = book.stepRows[row + SOURCES + k];
                if (!gives(proof, step, source, text.factOf(k, values))) {
                    return 10 + k;
                }
            }
            return 0;
        }

        /** Whether a STEP may take a FACT from a source. */
        private boolean gives(int proof, int step, int source, int wanted) {
            if (book.has(PAPERS, source)) {
                return (papers >> source & 1) != 0 && book.paperFact[source] == wanted;
            }
            if (source >= FROM_STEP && source < FROM_STEP + step) {
                int place = proof * MOST_STEPS + source - FROM_STEP;
                return lack[place] == 0 && fact[place] == wanted;
            }
            int q = book.endIn(proof, source);
            if (q >= 0) {
                return taken[q] && fact[q * MOST_STEPS + book.stepCount[q] - 1] == wanted;
            }
            return source == FROM_HOLE && book.takesHoles(proof);
        }

        private int factOfStep(int proof, int step, int day) {
            int row = book.rowOf(proof, step);
            Text.putLetters(book.stepRows[row + LETTERS], values);
            return book.textOn(book.stepRows[row + RULE], day).factOf(Text.END, values);
        }

        /** The FACT of a STEP's TERM today; -1: the RULE's text has no such TERM. */
        private int factOfTerm(int proof, int step, int term) {
            int row = book.rowOf(proof, step);
            Text text = book.textOn(book.stepRows[row + RULE], book.counts[TODAY]);
            if (term < 0 || term >= text.terms) {
                return -1;
            }
            Text.putLetters(book.stepRows[row + LETTERS], values);
            return text.factOf(term, values);
        }

        /** What a PAPER that isn't FALSE, or a STEP ahead of one, says today; -1: there is none such. */
        private int saidBy(int proof, int step, int source) {
            if (book.isTrue(source)) {
                return book.paperFact[source];
            }
            if (source >= FROM_STEP && source < FROM_STEP + step) {
                return factOfStep(proof, source - FROM_STEP, book.counts[TODAY]);
            }
            return -1;
        }

        /** PAPERS on which a PROOF leans, as bits; those of the PROOFS of lesser numbers come first. */
        private int papersUnder(int proof) {
            for (int p = 0; p <= proof; p++) {
                under[p] = 0;
                for (int s = 0; s < book.stepCount[p]; s++) {
                    under[p] |= papersUnderStep(p, book.rowOf(p, s));
                }
            }
            return under[proof];
        }

        private int papersUnderStep(int proof, int row) {
            int bits = 0;
            for (int k = 0; k < book.stepRows[row + TERMS]; k++) {
                int source = book.stepRows[row + SOURCES + k];
                int q = book.endIn(proof, source);
                if (book.has(PAPERS, source)) {
                    bits |= 1 << source;
                } else if (q >= 0) {
                    bits |= under[q];
                }
            }
            return bits;
        }
    }

    /** Which FACTS are reached from PAPERS by RULES, and by how much. */
    private static final class Reach {
        private static final int FREE = -1;

        private final Book book;
        /** HEIGHT or SIZE of a FACT that is reached; -1: it isn't. */
        private final int[] cost = new int[FACTS];
        private final int[] reached = new int[FACTS];
        private int size = 0;
        /** FACTS whose cost can't change any more: only these serve as TERMS. */
        private final boolean[] settled = new boolean[FACTS];
        private boolean bySize = false;
        private final Text[] inForce = new Text[MOST_RULES];
        private final int[] values = Text.newValues();

        private Reach(Book office) {
            book = office;
            Arrays.fill(cost, -1);
        }

        private boolean has(int fact) {
            return cost[fact] >= 0;
        }

        /** Only the FACTS of these PAPERS are reached. */
        private void begin(int papers, boolean sizes) {
            for (int i = 0; i < size; i++) {
                cost[reached[i]] = -1;
                settled[reached[i]] = false;
            }
            size = 0;
            bySize = sizes;
            for (int p = 0; p < book.counts[PAPERS]; p++) {
                if ((papers >> p & 1) != 0) {
                    arrive(book.paperFact[p], sizes ? 1 : 0);
                }
            }
        }

        /** All that follows on a DAY, if these PAPERS alone aren't FALSE; with SIZES, or else with HEIGHTS. */
        private void spread(int day, int papers, boolean sizes) {
            begin(papers, sizes);
            int rules = book.counts[RULES];
            for (int r = 0; r < rules; r++) {
                inForce[r] = book.textOn(r, day);
            }
            // FACTS settle from the least cost on; HEIGHTS arrive in that order by themselves.
            for (int i = 0; i < size && i < FACTS; i++) {
                if (bySize) {
                    bringLeast(i);
                }
                settled[reached[i]] = true;
                for (int r = 0; r < rules; r++) {
                    useIn(inForce[r], reached[i]);
                }
            }
        }

        private void bringLeast(int place) {
            int least = place;
            for (int i = place + 1; i < size; i++) {
                if (cost[reached[i]] < cost[reached[least]]) {
                    least = i;
                }
            }
            int fact = reached[least];
            reached[least] = reached[place];
            reached[place] = fact;
        }

        private void useIn(Text text, int fact) {
            for (int k = 0; k < text.terms; k++) {
                if (bind(text, k, fact)) {
                    complete(text, Text.FIRST_LETTER);
                }
            }
        }

        /** One RULE brings its ENDS by what is reached ahead of it. */
        private void useOnce(Text text) {
            int before = size;
            for (int i = 0; i < before; i++) {
                if (bind(text, 0, reached[i])) {
                    complete(text, Text.FIRST_LETTER);
                }
            }
            settleFrom(before);
        }

        private void settleFrom(int place) {
            for (int i = place; i < size; i++) {
                settled[reached[i]] = true;
            }
        }

        /** Letters become what a TERM needs to be a FACT; false: it can't be. */
        private boolean bind(Text text, int term, int fact) {
            if (text.parts[4 * term] != fact / SHAPES_APART) {
                return false;
            }
            for (int letter = Text.FIRST_LETTER; letter < Text.ARGS; letter++) {
                values[letter] = FREE;
            }
            return bindArg(text.parts[4 * term + 1], fact / 25 % 5) && bindArg(text.parts[4 * term + 2], fact / 5 % 5)
                    && bindArg(text.parts[4 * term + 3], fact % 5);
        }

        private boolean bindArg(int arg, int value) {
            if (values[arg] == FREE) {
                values[arg] = value;
            }
            return values[arg] == value;
        }

        /** Tries all that the letters of TERMS from this one on may be, where they are still free. */
        private void complete(Text text, int letter) {
            int free = letter;
            while (free < Text.ARGS && (values[free] != FREE || !text.hasInTerms(free))) {
                free++;
            }
            if (free >= Text.ARGS) {
                conclude(text);
                return;
            }
            for (int value = 0; value < 5; value++) {
                values[free] = value;
                complete(text, free + 1);
            }
            values[free] = FREE;
        }

        private void conclude(Text text) {
            if (!text.testsHold(values)) {
                return;
            }
            int sum = 0;
            int greatest = 0;
            for (int k = 0; k < text.terms; k++) {
                int fact = text.factOf(k, values);
                if (!settled[fact]) {
                    return;
                }
                sum += cost[fact];
                greatest = Math.max(greatest, cost[fact]);
            }
            arrive(text.factOf(Text.END, values), bySize ? Math.min(LARGEST_SIZE, 1 + sum) : 1 + greatest);
        }

        private void arrive(int fact, int by) {
            if (cost[fact] < 0 && size < FACTS) {
                reached[size] = fact;
                size++;
                cost[fact] = by;
            } else if (by < cost[fact]) {
                cost[fact] = by;
            }
        }
    }

    /** Reads TACTICS, and runs them. */
    private static final class Tactician {
        private final Book book;
        private final Reach reach;
        private int spent = 0;
        private int limit = 0;
        private int start = 0;
        private int size = 0;

        private Tactician(Book office, Reach means) {
            book = office;
            reach = means;
        }

        /** The FAULT; -1: it is a TACTIC. */
        private static int faultOf(byte[] tape, int size) {
            int open = 0;
            boolean wanted = true;
            boolean starred = false;
            for (int at = 0; at < size && at < tape.length; at++) {
                int sign = tape[at];
                if (wanted && sign == '(' && open < MOST_OPEN) {
                    open++;
                } else if (wanted && sign >= '0' && sign < '0' + MOST_RULES) {
                    wanted = false;
                    starred = false;
                } else if (!wanted && sign == '*' && !starred) {
                    starred = true;
                } else if (!wanted && sign == ')' && open > 0) {
                    open--;
                    starred = false;
                } else if (!wanted && (sign == ';' || sign == '|')) {
                    wanted = true;
                } else {
                    return at;
                }
            }
            return wanted || open > 0 ? size : -1;
        }

        private void play(int tactic, int most) {
            reach.begin(book.truePapers, false);
            reach.settleFrom(0);
            spent = 0;
            limit = most;
            start = tactic * MOST_BYTES;
            size = book.tacticSize[tactic];
            playPieces(0, 0);
        }

        private int signAt(int at) {
            return at >= 0 && at < size ? book.tacticBytes[start + at] : 0;
        }

        /** PIECES from a place on, one behind the other, with so many ( open. */
        private void playPieces(int from, int open) {
            int at = from;
            boolean brought = false;
            for (int tries = 0; tries < MOST_BYTES && at < size; tries++) {
                int end = endOfTry(at);
                if (!brought) {
                    brought = playTry(at, end, open);
                }
                if (signAt(end) == ';') {
                    brought = false;
                } else if (signAt(end) != '|') {
                    return;
                }
                at = end + 1;
            }
        }

        /** Whether a TRY brings something new. */
        private boolean playTry(int from, int end, int open) {
            int atFirst = reach.size;
            int rule = signAt(from) - '0';
            boolean again = true;
            // A round more must have brought a FACT, so there are at most as many rounds, and one.
            for (int round = 0; round <= FACTS && again; round++) {
                int before = reach.size;
                if (signAt(from) == '(' && open < MOST_OPEN) {
                    playPieces(from + 1, open + 1);
                } else if (spent < limit && book.has(RULES, rule)) {
                    spent++;
                    reach.useOnce(book.textOn(rule, book.counts[TODAY]));
                }
                again = signAt(end - 1) == '*' && reach.size > before;
            }
            return reach.size > atFirst;
        }

        /** The place behind a TRY and its *. */
        private int endOfTry(int from) {
            int open = 0;
            int at = from;
            while (at < size) {
                open += signAt(at) == '(' ? 1 : signAt(at) == ')' ? -1 : 0;
                at++;
                if (open <= 0) {
                    break;
                }
            }
            return signAt(at) == '*' ? at + 1 : at;
        }
    }

    /** The KINDS by their ACTS, with x, the PROOF's number and how many STEPS it has. */
    private static class Line {
        int actLeans(int x, int number, int steps) {
            return x + steps;
        }

        int actShows(int x, int number, int steps) {
            return actLeans(x, number, steps) - number;
        }

        int actEnds(int x, int number, int steps) {
            return actShows(x, number, steps) * 2;
        }
    }

    private static class Piece extends Line {
        int actLeans(int x, int number, int steps) {
            return super.actLeans(x * 2, number, steps);
        }
    }

    private static final class Shared extends Line {
        int actShows(int x, int number, int steps) {
            return super.actShows(x, number, steps) ^ 5;
        }
    }

    private static final class Cut extends Line {
        int actEnds(int x, int number, int steps) {
            return -super.actEnds(x, number, steps);
        }
    }

    private static final class Open extends Piece {
        int actShows(int x, int number, int steps) {
            return super.actShows(x + 1, number, steps);
        }

        int actEnds(int x, int number, int steps) {
            return super.actEnds(x, number, steps) + actLeans(1, number, steps);
        }
    }
}
