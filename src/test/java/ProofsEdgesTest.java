import java.util.function.Supplier;

/** Terms 3, promises 12 to 18, 20 and 21: a test of its own for each sentence that names a boundary, which stands above it. */
public final class ProofsEdgesTest {
    private static final int LEAST = Integer.MIN_VALUE, MOST = Integer.MAX_VALUE;
    private static final int LINE = Offices.LINE, PIECE = Offices.PIECE, SHARED = Offices.SHARED, CUT = Offices.CUT,
            OPEN = Offices.OPEN;

    public static void main(String[] args) {
        proofOfNoKind();
        proofFull();
        stepOfNoProofOrRule();
        stepLetters();
        stepTerms();
        termsBeyondDoNotMatter();
        stepOfATitle();
        stepOfAnEnd();
        stepFull();
        lacksRefused();
        lacksAnotherNumberOfTerms();
        lacksATest();
        lacksTheFirstTerm();
        fromPapers();
        fromSteps();
        fromEnds();
        fromEndsOnADay();
        fromHoles();
        fromNothing();
        saysRefused();
        saysOfTheProof();
        checkRefused();
        takenWithSteps();
        takenIfAllAreGood();
        takenWithHoles();
        leansRefused();
        leansOnAllTerms();
        papersThatComeLater();
        holeRefused();
        holesByTheirOrder();
        actOfNone();
        actsWrap();
        asRefused();
        asOtherKinds();
        Due.end();
    }

    /** "PROOFS .. of KINDS: 0 LINE; 1 PIECE, 2 SHARED, 3 CUT ..; 4 OPEN"; proof: "NONE" */
    private static void proofOfNoKind() {
        for (int kind : new int[] {-1, 5, LEAST, MOST}) {
            Still.refused("proof of kind " + kind, Offices::someWithTape, DeedProofs.NONE, office -> office.proof(kind));
        }
        for (int kind = 0; kind < 5; kind++) {
            DeedProofs office = Offices.some();
            Due.is("proof of kind " + kind, office.proof(kind), 9);
            Due.is("it is of that kind", office.as(9, kind), 0);
        }
    }

    /** "PROOFS are numbered from 0 on, 12 at most" */
    private static void proofFull() {
        DeedProofs office = new DeedProofs();
        for (int i = 0; i < 12; i++) {
            Due.is("proof " + i, office.proof(i % 5), i);
        }
        Due.is("a 13th", office.proof(LINE), DeedProofs.FULL);
        Supplier<DeedProofs> some = Offices.someAnd(Offices.times(3, (made, i) -> made.proof(i)));
        for (int kind = 0; kind < 5; kind++) {
            int wanted = kind;
            Still.refused("a 13th of kind " + kind, Offices::full, DeedProofs.FULL, full -> full.proof(wanted));
            Still.refused("a 13th beside all else", some, DeedProofs.FULL, full -> full.proof(wanted));
        }
    }

    /** step: "NONE: proof, rule" */
    private static void stepOfNoProofOrRule() {
        for (int none : new int[] {-1, 9, 12, LEAST, MOST}) {
            Still.refused("step of proof " + none, Offices::someWithTape, DeedProofs.NONE,
                    office -> office.step(none, 0, 0, 1, 0, 0, 0));
        }
        for (int none : new int[] {-1, 3, 8, LEAST, MOST}) {
            Still.refused("step by rule " + none, Offices::someWithTape, DeedProofs.NONE,
                    office -> office.step(LINE, none, 0, 1, 0, 0, 0));
        }
        Due.is("by the last rule", Offices.step(Offices.some(), 3, 2, "0000", 1), 0);
        Due.is("of the last proof", Offices.step(Offices.some(), 8, 2, "0000", 1), 1);
    }

    /** "what its letters are (0 .. 4 each)", "125 a, 25 b, 5 c and d together"; step: "BAD: letters" */
    private static void stepLetters() {
        for (int letters : new int[] {-1, 625, LEAST, MOST}) {
            Still.refused("letters " + letters, Offices::someWithTape, DeedProofs.BAD,
                    office -> office.step(5, 0, letters, 1, 0, 0, 0));
        }
        for (int letters = 0; letters < 625; letters++) {
            DeedProofs office = new DeedProofs();
            Due.rule(office, "o(a,b,c)&o(d,d,d)>w(a,b,c)");
            Due.rule(office, "o(a,b,c)&o(d,d,d)>o(d,0,d)");
            office.paper(letters / 5, 0);
            office.paper(31 * (letters % 5), 0);
            office.proof(LINE);
            Due.is("letters " + letters, office.step(0, 0, letters, 2, 0, 1, 0), 0);
            Due.is("letters " + letters + " again", office.step(0, 1, letters, 2, 0, 1, 0), 1);
            Due.is("a, b, c of " + letters, office.says(0, 0, 0), Due.fact("w000") + letters / 5);
            Due.is("d of " + letters, office.says(0, 1, 0), 26 * (letters % 5));
            Due.is("taken by " + letters, office.check(0, 0), 1);
        }
    }

    /** "how many TERMS (1 .. 3)"; step: "BAD: .. terms" */
    private static void stepTerms() {
        for (int terms : new int[] {0, -1, 4, LEAST, MOST}) {
            Still.refused("terms " + terms, Offices::someWithTape, DeedProofs.BAD,
                    office -> office.step(5, 0, 0, terms, 0, 0, 0));
        }
        for (int terms = 1; terms <= 3; terms++) {
            DeedProofs office = Offices.some();
            Due.is("terms " + terms, office.step(3, 0, Due.letters("1230"), terms, 0, 0, 0), 0);
            Due.is("good with 1 alone", office.lacks(3, 0, 5), terms == 1 ? 0 : 1);
        }
    }

    /** "from what (first, second, third; those beyond do not matter)" */
    private static void termsBeyondDoNotMatter() {
        for (int odd : new int[] {LEAST, -1, 0, 1, 100, 200, 300, MOST}) {
            for (int kind = 0; kind < 5; kind++) {
                DeedProofs office = Offices.some();
                office.proof(kind);
                office.step(9, 0, Due.letters("1230"), 1, 0, odd, odd);
                Due.is("taken beside " + odd, office.check(9, 5), 1);
                Due.is("leans beside " + odd, office.leans(9), 1);
                Due.is("holes beside " + odd, office.hole(9, -1), 0);
            }
        }
        DeedProofs office = Offices.some();
        office.step(8, 0, Due.letters("1230"), 1, 0, 206, 206);
        Due.is("no use as an end", Offices.step(office, 6, 0, "1230", 0), 1);
        office.step(8, 1, Due.letters("2130"), 2, 0, 206, 0);
        Due.is("a use as an end", Offices.step(office, 6, 0, "1230", 0), DeedProofs.STATE);
    }

    /** step: "STATE: a TITLE is of it" */
    private static void stepOfATitle() {
        Still.refused("step of a titled line", untied(), DeedProofs.STATE, office -> Offices.step(office, 0, 0, "1230", 0));
        DeedProofs office = untied().get();
        Due.is("one of the same fact", Offices.step(office, 1, 0, "1230", 0), 1);
        office.shown(0, true);
        Due.is("a title that falls", office.stand(0, 0), 0);
        Due.is("is of it all the same", Offices.step(office, 0, 0, "1230", 0), DeedProofs.STATE);
    }

    /** A PROOF with a TITLE, which no other uses, and one like it without. */
    private static Supplier<DeedProofs> untied() {
        return () -> {
            DeedProofs office = new DeedProofs();
            Due.rule(office, "s(a,b,c)>o(b,a,c)");
            office.paper(Due.fact("s123"), 0);
            office.proof(LINE);
            office.proof(LINE);
            Offices.step(office, 0, 0, "1230", 0);
            Offices.step(office, 1, 0, "1230", 0);
            office.title(0);
            return office;
        };
    }

    /** step: "STATE: .. or it is used as an end" */
    private static void stepOfAnEnd() {
        Still.refused("step of an end", Offices::someWithTape, DeedProofs.STATE,
                office -> Offices.step(office, Offices.USED_AS_AN_END, 0, "1230", 0));
        for (int kind : new int[] {SHARED, CUT}) {
            DeedProofs office = Offices.some();
            office.proof(kind);
            Due.is("not used yet", Offices.step(office, 6, 0, "1234", 0), 1);
            Offices.step(office, 9, 1, "2130", 206, 1);
            Due.is("used then", Offices.step(office, 6, 0, "1234", 0), DeedProofs.STATE);
            Due.is("the one that uses it isn't", Offices.step(office, 9, 2, "0000", 1), 1);
            office.shown(0, true);
            Due.is("used, though not taken", Offices.step(office, 6, 0, "1234", 0), DeedProofs.STATE);
        }
    }

    /** "Each has STEPS, 12 at most"; step: "FULL" */
    private static void stepFull() {
        for (int kind = 0; kind < 5; kind++) {
            DeedProofs office = Offices.some();
            office.proof(kind);
            for (int i = 0; i < 12; i++) {
                Due.is("step " + i, Offices.step(office, 9, 0, "1230", 0), i);
            }
            Due.is("a 13th", Offices.step(office, 9, 0, "1230", 0), DeedProofs.FULL);
            Due.is("steps", office.as(9, kind), 12);
        }
        Still.refused("a 13th step", Offices::full, DeedProofs.FULL, office -> Offices.step(office, 11, 0, "0000", 1));
        Supplier<DeedProofs> some = Offices.someAnd(Offices.times(12, (made, i) -> Offices.step(made, 3, 0, "1230", 0)));
        Still.refused("a 13th step beside all else", some, DeedProofs.FULL, office -> Offices.step(office, 3, 0, "1230", 0));
    }

    /** lacks: "NONE; BAD: day." */
    private static void lacksRefused() {
        for (int none : new int[] {-1, 9, 12, LEAST, MOST}) {
            Still.refused("lacks of proof " + none, Offices::someWithTape, DeedProofs.NONE, office -> office.lacks(none, 0, 5));
        }
        for (int none : new int[] {-1, 1, 12, LEAST, MOST}) {
            Still.refused("lacks of step " + none, Offices::someWithTape, DeedProofs.NONE, office -> office.lacks(0, none, 5));
        }
        Still.refused("lacks without steps", Offices::someWithTape, DeedProofs.NONE,
                office -> office.lacks(Offices.WITHOUT_STEPS, 0, 5));
        for (int day : new int[] {-1, 1000, LEAST, MOST}) {
            Still.refused("lacks on day " + day, Offices::someWithTape, DeedProofs.BAD, office -> office.lacks(0, 0, day));
        }
        Due.is("on day 0", Offices.full().lacks(11, 11, 0), 0);
        Due.is("on day 999", Offices.full().lacks(11, 11, 999), 0);
    }

    /** "1 RULE: its text has another number of TERMS", "the first that is so" */
    private static void lacksAnotherNumberOfTerms() {
        for (int told = 1; told <= 3; told++) {
            for (int terms = 1; terms <= 3; terms++) {
                DeedProofs office = new DeedProofs();
                Due.rule(office, "o(1,2,3)" + "&o(1,2,3)".repeat(terms - 1) + ">w(0,0,0)");
                Due.rule(office, "o(a,2,3)" + "&o(1,2,3)".repeat(terms - 1) + "&a#1>w(0,0,0)");
                office.paper(Due.fact("o123"), 0);
                office.proof(LINE);
                office.step(0, 0, 0, told, 0, 0, 0);
                office.step(0, 1, 125, told, 0, 0, 0);
                office.step(0, 0, 0, told, 5, 0, 0);
                Due.is(told + " told of " + terms, office.lacks(0, 0, 0), told == terms ? 0 : 1);
                Due.is("ahead of a test", office.lacks(0, 1, 0), told == terms ? 2 : 1);
                Due.is("ahead of a term", office.lacks(0, 2, 0), told == terms ? 10 : 1);
            }
        }
    }

    /** "2 a TEST doesn't hold": "is less, is it, isn't it" */
    private static void lacksATest() {
        String[] signs = {"<", "=", "#"};
        for (int sign = 0; sign < 3; sign++) {
            for (int both = 0; both < 25; both++) {
                int left = both / 5;
                int right = both % 5;
                boolean holds = sign == 0 ? left < right : sign == 1 ? left == right : left != right;
                DeedProofs office = new DeedProofs();
                Due.rule(office, "o(a,b,0)&a" + signs[sign] + "b>w(0,0,0)");
                Due.rule(office, "o(a,b,0)&a=a&b=b&a" + signs[sign] + right + ">w(0,0,0)");
                office.paper(5 * both, 0);
                office.proof(LINE);
                office.step(0, 0, 25 * both, 1, 0, 0, 0);
                office.step(0, 1, 25 * both, 1, 0, 0, 0);
                office.step(0, 0, 25 * both, 1, 1, 0, 0);
                Due.is(left + signs[sign] + right, office.lacks(0, 0, 0), holds ? 0 : 2);
                Due.is(left + signs[sign] + right + ", a digit", office.lacks(0, 1, 0), holds ? 0 : 2);
                Due.is("ahead of a term", office.lacks(0, 2, 0), holds ? 10 : 2);
                Due.is("so it follows", office.follows(Due.fact("w000"), 0, 0), holds ? 1 : 0);
            }
        }
    }

    /** "10 and k: TERM k is not what it is taken from", "the first that is so" */
    private static void lacksTheFirstTerm() {
        DeedProofs office = new DeedProofs();
        Due.rule(office, "o(a,b,c)&s(a,b,c)&h(a,b,c)>w(a,b,c)");
        office.paper(Due.fact("o123"), 0);
        office.paper(Due.fact("s123"), 0);
        office.paper(Due.fact("h123"), 0);
        office.proof(LINE);
        for (int wrong = 0; wrong < 8; wrong++) {
            int first = (wrong & 1) == 0 ? 0 : 1;
            int second = (wrong & 2) == 0 ? 1 : 0;
            int third = (wrong & 4) == 0 ? 2 : 0;
            Offices.step(office, 0, 0, "1230", first, second, third);
            int due = wrong == 0 ? 0 : 10 + Integer.numberOfTrailingZeros(wrong);
            Due.is("terms wrong " + wrong, office.lacks(0, wrong, 0), due);
        }
    }

    /** An office of a RULE that says what it is taken from, o123, with 20 PAPERS of that and a PROOF of a KIND. */
    private static DeedProofs echo(int kind, int papers) {
        DeedProofs office = new DeedProofs();
        Due.rule(office, "o(a,b,c)>o(a,b,c)");
        for (int i = 0; i < papers; i++) {
            office.paper(Due.fact("o123"), 0);
        }
        office.proof(LINE);
        office.proof(LINE);
        office.proof(kind);
        office.proof(LINE);
        for (int proof = 0; proof < 4; proof++) {
            Offices.step(office, proof, 0, "1230", 0);
        }
        return office;
    }

    /** What a STEP of PROOF 2 lacks that is taken from there. */
    private static int lackFrom(DeedProofs office, int source) {
        int step = Offices.step(office, 2, 0, "1230", source);
        return office.lacks(2, step, office.count(0));
    }

    /** "0 .. 19 a PAPER"; "none such", "another FACT", "FALSE" */
    private static void fromPapers() {
        for (int kind = 0; kind < 5; kind++) {
            Due.is("from paper 0", lackFrom(echo(kind, 20), 0), 0);
            Due.is("from paper 19", lackFrom(echo(kind, 20), 19), 0);
            Due.is("from paper 20", lackFrom(echo(kind, 20), 20), 10);
            Due.is("from paper -1", lackFrom(echo(kind, 20), -1), 10);
            Due.is("from the last of 7", lackFrom(echo(kind, 7), 6), 0);
            Due.is("from none such", lackFrom(echo(kind, 7), 7), 10);
            Due.is("from 19 of 19", lackFrom(echo(kind, 19), 19), 10);
            DeedProofs office = echo(kind, 7);
            office.shown(6, true);
            Due.is("from a false one", lackFrom(office, 6), 10);
            office.shown(6, false);
            Due.is("then true", office.lacks(2, 1, 0), 0);
            office.paper(Due.fact("o124"), 0);
            Due.is("from another fact", lackFrom(office, 7), 10);
        }
    }

    /** "100 and i: an earlier STEP"; "none such", "another FACT", "not good" */
    private static void fromSteps() {
        for (int kind = 0; kind < 5; kind++) {
            DeedProofs office = echo(kind, 1);
            for (int s = 1; s < 12; s++) {
                Due.is("from the step ahead", lackFrom(office, 99 + s), 0);
            }
            Due.is("the last of them", office.lacks(2, 11, 0), 0);
            office.shown(0, true);
            Due.is("none is good", office.lacks(2, 11, 0), 10);
            for (int i : new int[] {1, 2, 11, 12, 99}) {
                Due.is("from no earlier step " + i, lackFrom(echo(kind, 1), 100 + i), 10);
            }
            office = echo(kind, 1);
            Offices.step(office, 2, 0, "1230", 0);
            Due.is("from 99", lackFrom(office, 99), 10);
            Due.is("from its own", lackFrom(office, 103), 10);
            Due.is("from one that isn't good", lackFrom(office, 103), 10);
            Due.is("from the first", lackFrom(office, 100), 0);
            Due.is("from one that comes later", lackFrom(office, 107), 10);
            Offices.step(office, 2, 0, "1230", 0);
            Due.is("and says it then", office.lacks(2, 6, 0), 10);
            Due.is("good itself", office.lacks(2, 7, 0), 0);
            Offices.step(office, 2, 0, "1240", 100);
            Due.is("from one of another fact", office.lacks(2, 8, 0), 10);
        }
    }

    /** "200 and q: the end of another PROOF of a lesser number that is TAKEN then (SHARED, CUT alone)" */
    private static void fromEnds() {
        for (int kind = 0; kind < 5; kind++) {
            int allowed = kind == SHARED || kind == CUT ? 0 : 10;
            Due.is("from the first in kind " + kind, lackFrom(echo(kind, 1), 200), allowed);
            Due.is("from the one ahead in kind " + kind, lackFrom(echo(kind, 1), 201), allowed);
            for (int none : new int[] {199, 202, 203, 204, 211, 212, 299}) {
                Due.is("from " + none + " in kind " + kind, lackFrom(echo(kind, 1), none), 10);
            }
            DeedProofs office = echo(kind, 1);
            Offices.step(office, 1, 0, "3210", 0);
            Due.is("from one that isn't taken in kind " + kind, lackFrom(office, 201), 10);
            office = echo(kind, 2);
            office.paper(Due.fact("o321"), 0);
            Offices.step(office, 1, 0, "3210", 2);
            Due.is("from one of another fact in kind " + kind, lackFrom(office, 201), 10);
            Offices.step(office, 2, 0, "3210", 201);
            Due.is("that fact in kind " + kind, office.lacks(2, 2, 0), allowed);
        }
    }

    /** "that is TAKEN then" */
    private static void fromEndsOnADay() {
        for (int kind : new int[] {SHARED, CUT}) {
            DeedProofs office = echo(kind, 1);
            Due.rule(office, "o(a,b,c)>o(a,b,c)");
            Offices.step(office, 0, 1, "1230", 0);
            Due.change(office, 1, 7, "o(a,b,c)&a=0>o(a,b,c)");
            Due.is("taken today", lackFrom(office, 200), 0);
            Due.is("taken the day ahead", office.lacks(2, 1, 6), 0);
            Due.is("not taken then", office.lacks(2, 1, 7), 10);
            Due.is("nor at the end", office.lacks(2, 1, 999), 10);
        }
    }

    /** "300: a HOLE (PIECE, OPEN alone)"; "a HOLE may be any FACT" */
    private static void fromHoles() {
        for (int kind = 0; kind < 5; kind++) {
            int allowed = kind == PIECE || kind == OPEN ? 0 : 10;
            Due.is("from a hole in kind " + kind, lackFrom(echo(kind, 1), 300), allowed);
            Due.is("from 299 in kind " + kind, lackFrom(echo(kind, 1), 299), 10);
            Due.is("from 301 in kind " + kind, lackFrom(echo(kind, 1), 301), 10);
            DeedProofs office = echo(kind, 1);
            Offices.step(office, 2, 0, "4040", 300);
            Due.is("any fact in kind " + kind, office.lacks(2, 1, 0), allowed);
        }
    }

    /** "none such": a number that is none of these. */
    private static void fromNothing() {
        for (int kind = 0; kind < 5; kind++) {
            for (int none : new int[] {LEAST, -100, -1, 20, 32, 99, 112, 199, 400, 1000, MOST}) {
                DeedProofs office = echo(kind, 20);
                Due.is("from " + none + " in kind " + kind, lackFrom(office, none), 10);
                Due.is("not taken", office.check(2, 0), 0);
            }
        }
    }

    /** says: "NONE; BAD: day." */
    private static void saysRefused() {
        for (int none : new int[] {-1, 9, 12, LEAST, MOST}) {
            Still.refused("says of proof " + none, Offices::someWithTape, DeedProofs.NONE, office -> office.says(none, 0, 5));
            Still.refused("says of the whole " + none, Offices::someWithTape, DeedProofs.NONE,
                    office -> office.says(none, -1, 5));
        }
        for (int none : new int[] {-2, 1, 12, LEAST, MOST}) {
            Still.refused("says of step " + none, Offices::someWithTape, DeedProofs.NONE, office -> office.says(0, none, 5));
        }
        Still.refused("says of a step without steps", Offices::someWithTape, DeedProofs.NONE,
                office -> office.says(Offices.WITHOUT_STEPS, 0, 5));
        for (int day : new int[] {-1, 1000, LEAST, MOST}) {
            for (int step = -1; step < 1; step++) {
                int asked = step;
                Still.refused("says on day " + day, Offices::someWithTape, DeedProofs.BAD,
                        office -> office.says(0, asked, day));
            }
            Still.refused("says without steps on day " + day, Offices::someWithTape, DeedProofs.BAD,
                    office -> office.says(Offices.WITHOUT_STEPS, -1, day));
        }
    }

    /** "-1 as a step: of the PROOF; -5: it has no STEPS"; "that of a PROOF that of its last STEP" */
    private static void saysOfTheProof() {
        DeedProofs office = Offices.some();
        Due.is("no steps", office.says(Offices.WITHOUT_STEPS, -1, 5), -5);
        Offices.step(office, Offices.WITHOUT_STEPS, 2, "0000", 1);
        Due.is("one step", office.says(Offices.WITHOUT_STEPS, -1, 5), Due.fact("w000"));
        Offices.step(office, Offices.WITHOUT_STEPS, 2, "4440", 19);
        Due.is("the last step, though it lacks", office.says(Offices.WITHOUT_STEPS, -1, 5), 749);
        Due.is("the first step", office.says(Offices.WITHOUT_STEPS, 0, 5), Due.fact("w000"));
        Due.is("on day 0", Offices.full().says(11, 11, 0), 0);
        Due.is("on day 999", Offices.full().says(11, -1, 999), 0);
        Due.is("step 12", Offices.full().says(11, 12, 0), DeedProofs.NONE);
    }

    /** check: "NONE; BAD." */
    private static void checkRefused() {
        for (int none : new int[] {-1, 9, 12, LEAST, MOST}) {
            Still.refused("check of " + none, Offices::someWithTape, DeedProofs.NONE, office -> office.check(none, 5));
        }
        for (int day : new int[] {-1, 1000, LEAST, MOST}) {
            Still.refused("check on day " + day, Offices::someWithTape, DeedProofs.BAD, office -> office.check(0, day));
        }
        Due.is("on day 0", Offices.full().check(11, 0), 1);
        Due.is("on day 999", Offices.full().check(11, 999), 1);
    }

    /** "A PROOF is TAKEN if it has STEPS" */
    private static void takenWithSteps() {
        for (int kind = 0; kind < 5; kind++) {
            DeedProofs office = Offices.some();
            office.proof(kind);
            Due.is("without steps in kind " + kind, office.check(9, 5), 0);
            Offices.step(office, 9, 0, "1230", 0);
            Due.is("with one in kind " + kind, office.check(9, 5), 1);
        }
    }

    /** "all are good": the first, one between, the last. */
    private static void takenIfAllAreGood() {
        for (int kind = 0; kind < 5; kind++) {
            for (int wrong = 0; wrong < 12; wrong++) {
                DeedProofs office = Offices.some();
                office.proof(kind);
                for (int s = 0; s < 12; s++) {
                    Offices.step(office, 9, 0, "1230", s == wrong ? 1 : 0);
                }
                Due.is("step " + wrong + " isn't good", office.check(9, 5), 0);
            }
        }
    }

    /** "and it has no HOLE (in an OPEN one HOLES may be)" */
    private static void takenWithHoles() {
        for (int kind = 0; kind < 5; kind++) {
            for (int at = 0; at < 2; at++) {
                DeedProofs office = Offices.some();
                office.proof(kind);
                Offices.step(office, 9, 0, "1230", at == 0 ? 300 : 0);
                Offices.step(office, 9, 0, "1230", at == 1 ? 300 : 0);
                Due.is("a hole in step " + at + " of kind " + kind, office.check(9, 5), kind == OPEN ? 1 : 0);
            }
        }
    }

    /** leans: "NONE." */
    private static void leansRefused() {
        for (int none : new int[] {-1, 9, 12, LEAST, MOST}) {
            Still.refused("leans of " + none, Offices::someWithTape, DeedProofs.NONE, office -> office.leans(none));
        }
        Due.is("without steps", Offices.some().leans(Offices.WITHOUT_STEPS), 0);
    }

    /** "LEANS on: PAPERS by its STEPS, and by ends that they use (those of which the last STEP isn't made, too)" */
    private static void leansOnAllTerms() {
        DeedProofs office = new DeedProofs();
        Due.rule(office, "o(a,b,c)&o(a,b,c)&o(a,b,c)>o(a,b,c)");
        for (int i = 0; i < 20; i++) {
            office.paper(Due.fact("o123"), 0);
        }
        office.proof(LINE);
        Offices.step(office, 0, 0, "1230", 10, 14, 19);
        Due.is("each of its terms", office.leans(0), 1 << 10 | 1 << 14 | 1 << 19);
        Offices.step(office, 0, 0, "1230", 100, 0, 5);
        Offices.step(office, 0, 0, "1230", 7, 100, 100);
        Due.is("of each of its steps", office.leans(0), 1 << 10 | 1 << 14 | 1 << 19 | 1 | 1 << 5 | 1 << 7);
        for (int term = 0; term < 3; term++) {
            int proof = office.proof(term == 1 ? CUT : SHARED);
            int end = 200 + term;
            Offices.step(office, proof, 0, "1230", term == 0 ? end : 16, term == 1 ? end : 16, term == 2 ? end : 16);
            Offices.step(office, proof, 0, "1230", 16, 16, 16);
            Due.is("by an end as term " + term, office.leans(proof), office.leans(0) | 1 << 16);
        }
    }

    /** "none such": till the PAPER of that number comes; a STEP is taken from it then. */
    private static void papersThatComeLater() {
        DeedProofs office = new DeedProofs();
        Due.rule(office, "o(a,b,c)>s(a,b,c)");
        office.paper(Due.fact("w000"), 0);
        office.proof(LINE);
        Offices.step(office, 0, 0, "1230", 1);
        Due.is("none such", office.lacks(0, 0, 0), 10);
        Due.is("leans on none", office.leans(0), 0);
        office.paper(Due.fact("o123"), 0);
        Due.is("it came", office.lacks(0, 0, 0), 0);
        Due.is("taken", office.check(0, 0), 1);
        Due.is("leans on it", office.leans(0), 2);
    }

    /** hole: "NONE." "NONE there is no such .. i" */
    private static void holeRefused() {
        for (int none : new int[] {-1, 9, 12, LEAST, MOST}) {
            Still.refused("hole of " + none, Offices::someWithTape, DeedProofs.NONE, office -> office.hole(none, -1));
        }
        for (int i : new int[] {-2, 2, 12, LEAST, MOST}) {
            Still.refused("hole " + i, Offices::someWithTape, DeedProofs.NONE,
                    office -> office.hole(Offices.WITH_HOLES, i));
        }
        for (int proof : new int[] {0, 2, Offices.WITHOUT_STEPS}) {
            Still.refused("no hole in " + proof, Offices::someWithTape, DeedProofs.NONE, office -> office.hole(proof, 0));
            Due.is("none in " + proof, Offices.some().hole(proof, -1), 0);
        }
    }

    /** "HOLES of a PROOF (PIECE, OPEN): STEPS by their order, TERMS as told by theirs."; "10 times the STEP and the TERM" */
    private static void holesByTheirOrder() {
        for (int kind : new int[] {PIECE, OPEN}) {
            DeedProofs office = new DeedProofs();
            Due.rule(office, "o(a,b,c)>o(a,b,c)");
            office.proof(kind);
            for (int s = 0; s < 12; s++) {
                Offices.step(office, 0, 0, "1230", 300, 300, 300);
            }
            Due.is("how many", office.hole(0, -1), 36);
            for (int i = 0; i < 36; i++) {
                Due.is("hole " + i, office.hole(0, i), 10 * (i / 3) + i % 3);
            }
            Due.is("no more", office.hole(0, 36), DeedProofs.NONE);
            office.proof(kind);
            Offices.step(office, 1, 0, "1230", 0, 300);
            Offices.step(office, 1, 0, "1230", 0, 1, 300);
            Offices.step(office, 1, 0, "1230", 300, 1);
            int[] due = {3, 1, 12, 20, DeedProofs.NONE};
            for (int i = -1; i < 4; i++) {
                Due.is("hole " + i + " of few", office.hole(1, i), due[i + 1]);
            }
        }
    }

    /** act: "0: no such PROOF, act." */
    private static void actOfNone() {
        for (int none : new int[] {-1, 9, 12, LEAST, MOST}) {
            Still.refused("act of proof " + none, Offices::someWithTape, 0, office -> office.act(none, 0, 77));
        }
        for (int none : new int[] {-1, 3, LEAST, MOST}) {
            for (int proof = 0; proof < 5; proof++) {
                int asked = proof;
                Still.refused("act " + none + " of " + proof, Offices::someWithTape, 0, office -> office.act(asked, none, 77));
            }
        }
    }

    /** "ACTS of PROOFS by KIND, with x (ints, wrapping)"; i its number, k its STEPS */
    private static void actsWrap() {
        int[] kinds = {LINE, PIECE, SHARED, CUT, OPEN};
        for (int steps : new int[] {0, 12}) {
            DeedProofs office = new DeedProofs();
            Due.rule(office, "o(a,b,c)>o(a,b,c)");
            for (int kind : kinds) {
                office.proof(kind);
                for (int s = 0; s < steps; s++) {
                    Offices.step(office, kind, 0, "1230", 0);
                }
            }
            for (int x : new int[] {0, -1, 1, MOST, LEAST, MOST - 11, MOST - 12, 1 << 30, -(1 << 30), 1431655765}) {
                for (int act = 0; act < 3; act++) {
                    for (int kind : kinds) {
                        Due.is("act " + act + " of kind " + kind + " with " + x, office.act(kind, act, x),
                                (int) wideAct(kind, act, x, kind, steps));
                    }
                }
            }
        }
    }

    /** The bodies in wide numbers, of which the lowest 32 bits are what wrapping ints give. */
    private static long wideAct(int kind, int act, long x, int i, int k) {
        boolean doubled = kind == PIECE || kind == OPEN;
        long leans = (doubled ? 2 * x : x) + k;
        long opened = 2 * (x + 1) + k - i;
        long shows = kind == OPEN ? opened : kind == SHARED ? leans - i ^ 5 : leans - i;
        long ends = kind == CUT ? -2 * shows : kind == OPEN ? 2 * shows + 2 + k : 2 * shows;
        return act == 0 ? leans : act == 1 ? shows : ends;
    }

    /** as: "NONE: proof, k" */
    private static void asRefused() {
        for (int none : new int[] {-1, 9, 12, LEAST, MOST}) {
            Still.refused("as of proof " + none, Offices::someWithTape, DeedProofs.NONE, office -> office.as(none, 0));
        }
        for (int none : new int[] {-1, 5, LEAST, MOST}) {
            for (int proof = 0; proof < 5; proof++) {
                int asked = proof;
                Still.refused(proof + " as kind " + none, Offices::someWithTape, DeedProofs.NONE,
                        office -> office.as(asked, none));
            }
        }
    }

    /** "A PROOF taken for a KIND k (0 .. 4), or one under that: how many STEPS."; "-6: it is of another KIND" */
    private static void asOtherKinds() {
        int[][] above = {{LINE}, {LINE, PIECE}, {LINE, SHARED}, {LINE, CUT}, {LINE, PIECE, OPEN}};
        for (int steps : new int[] {0, 12}) {
            for (int kind = 0; kind < 5; kind++) {
                DeedProofs office = new DeedProofs();
                Due.rule(office, "o(a,b,c)>o(a,b,c)");
                office.proof(kind);
                for (int s = 0; s < steps; s++) {
                    Offices.step(office, 0, 0, "1230", 0);
                }
                for (int k = 0; k < 5; k++) {
                    int due = -6;
                    for (int own : above[kind]) {
                        due = own == k ? steps : due;
                    }
                    Due.is(kind + " as " + k, office.as(0, k), due);
                }
            }
        }
    }
}
