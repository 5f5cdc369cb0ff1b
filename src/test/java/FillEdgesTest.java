import java.util.function.Supplier;

/** Promise 19: a test of its own for each sentence that names a boundary, which stands above it. */
public final class FillEdgesTest {
    private static final int LEAST = Integer.MIN_VALUE, MOST = Integer.MAX_VALUE, PROOF = 9;

    public static void main(String[] args) {
        fillOfNoProof();
        fillWithoutAHole();
        fillFromNoneSuch();
        fillFromNoEarlierStep();
        fillFromAFalsePaper();
        fillFromAnotherFact();
        fillOfTheLeastFact();
        fillToday();
        fillTheFirst();
        fillByItsOwnLetters();
        fillFromEndToEnd();
        fillFromAStepThatLacks();
        fillATitle();
        fillAnEnd();
        Due.end();
    }

    /** RULE 3 says what it is taken from; PAPERS 4: o123, 5: o321, 6: o123; PROOF 9 has HOLES in STEPS 1 and 2. */
    private static DeedProofs office(int kind) {
        return Offices.someAnd(office -> {
            Due.rule(office, "o(a,b,c)>o(a,b,c)");
            Due.rule(office, "o(a,b,c)&o(c,b,a)>s(a,b,c)");
            office.paper(Due.fact("o123"), 0);
            office.paper(Due.fact("o321"), 0);
            office.paper(Due.fact("o123"), 0);
            office.proof(kind);
            Offices.step(office, PROOF, 3, "1230", 4);
            Offices.step(office, PROOF, 3, "1230", 300);
            Offices.step(office, PROOF, 4, "1230", 300, 300);
            Offices.step(office, PROOF, 3, "1230", 4);
        }).get();
    }

    private static DeedProofs piece() {
        return office(Offices.PIECE);
    }

    private static DeedProofs open() {
        return office(Offices.OPEN);
    }

    private static void refused(String name, int from) {
        Still.refused("piece: " + name, FillEdgesTest::piece, DeedProofs.STATE, office -> office.fill(PROOF, from));
        Still.refused("open: " + name, FillEdgesTest::open, DeedProofs.STATE, office -> office.fill(PROOF, from));
    }

    /** "NONE: proof" */
    private static void fillOfNoProof() {
        for (int none : new int[] {-1, 9, 12, LEAST, MOST}) {
            Still.refused("fill of " + none, Offices::someWithTape, DeedProofs.NONE, office -> office.fill(none, 0));
        }
    }

    /** "STATE: there is none" */
    private static void fillWithoutAHole() {
        for (int proof : new int[] {0, 2, Offices.WITHOUT_STEPS, Offices.LACKING}) {
            for (int from : new int[] {0, 100, 300}) {
                Still.refused("fill of " + proof + " from " + from, Offices::someWithTape, DeedProofs.STATE,
                        office -> office.fill(proof, from));
            }
        }
        for (int kind : new int[] {Offices.LINE, Offices.SHARED, Offices.CUT}) {
            Still.refused("fill in kind " + kind, () -> office(kind), DeedProofs.STATE, office -> office.fill(PROOF, 4));
        }
        DeedProofs empty = new DeedProofs();
        empty.proof(Offices.PIECE);
        Due.is("without steps", empty.fill(0, 0), DeedProofs.STATE);
    }

    /** "or that is none such": from neither 0 .. 19 nor 100 and i, or from a PAPER that there isn't. */
    private static void fillFromNoneSuch() {
        for (int from : new int[] {-1, 7, 19, 20, 32, 99, 200, 208, 300, LEAST, MOST}) {
            refused("from " + from, from);
        }
    }

    /** "no earlier STEP": its own, though it says that FACT, a later one that says it, one that there isn't. */
    private static void fillFromNoEarlierStep() {
        for (int from : new int[] {101, 102, 103, 104, 111, 112}) {
            refused("from step " + from, from);
        }
    }

    /** "FALSE" */
    private static void fillFromAFalsePaper() {
        Supplier<DeedProofs> shown = Offices.then(FillEdgesTest::piece, office -> office.shown(4, true));
        Still.refused("from a false paper", shown, DeedProofs.STATE, office -> office.fill(PROOF, 4));
        Due.is("from another of that fact", shown.get().fill(PROOF, 6), 2);
        Due.is("from one that is true", piece().fill(PROOF, 4), 2);
        DeedProofs again = shown.get();
        again.shown(4, false);
        Due.is("true again", again.fill(PROOF, 4), 2);
    }

    /** "or says another FACT" */
    private static void fillFromAnotherFact() {
        refused("from a paper of another fact", 5);
        Supplier<DeedProofs> last = Offices.then(FillEdgesTest::piece, office -> {
            office.fill(PROOF, 4);
            office.fill(PROOF, 4);
        });
        Still.refused("from a paper", last, DeedProofs.STATE, office -> office.fill(PROOF, 4));
        Still.refused("from a step of another fact", last, DeedProofs.STATE, office -> office.fill(PROOF, 100));
        Due.is("from a paper of that fact", last.get().fill(PROOF, 5), 0);
    }

    /** The same, where the FACT is 0: nothing says it but a PAPER or a STEP. */
    private static void fillOfTheLeastFact() {
        Supplier<DeedProofs> least = () -> {
            DeedProofs office = new DeedProofs();
            Due.rule(office, "o(a,b,c)>s(a,b,c)");
            office.paper(749, 0);
            office.paper(0, 0);
            office.proof(Offices.PIECE);
            Offices.step(office, 0, 0, "0000", 300);
            return office;
        };
        for (int from : new int[] {-1, 0, 2, 20, 100, 101, 200, 300}) {
            Still.refused("the least fact from " + from, least, DeedProofs.STATE, office -> office.fill(0, from));
        }
        Due.is("from a paper of it", least.get().fill(0, 1), 0);
        DeedProofs changed = least.get();
        Offices.step(changed, 0, 0, "0000", 0, 300);
        changed.fill(0, 1);
        Due.is("no text has such a term", changed.fill(0, 1), DeedProofs.STATE);
    }

    /** "(all TODAY)": by the text that the RULE has TODAY, of the HOLE's STEP and of the earlier one. */
    private static void fillToday() {
        Due.is("the day ahead", changedPiece(1).fill(PROOF, 100), 2);
        Due.is("a step that says another then", changedPiece(2).fill(PROOF, 100), DeedProofs.STATE);
        Due.is("the term is as it was", changedPiece(2).fill(PROOF, 4), 2);
        Due.is("another term then", changedPiece(3).fill(PROOF, 4), DeedProofs.STATE);
        Due.is("which a paper says", changedPiece(3).fill(PROOF, 5), 2);
    }

    /** A RULE changes in two days, and in three. */
    private static DeedProofs changedPiece(int days) {
        DeedProofs office = piece();
        office.rule();
        Due.change(office, 3, 7, "o(a,b,c)>o(c,b,a)");
        Due.change(office, 3, 8, "o(c,b,a)>o(a,b,c)");
        office.day(days);
        return office;
    }

    /** "The first HOLE is FILLED from (0 .. 19, 100 and i): HOLES that are left." */
    private static void fillTheFirst() {
        for (int kind : new int[] {Offices.PIECE, Offices.OPEN}) {
            DeedProofs office = office(kind);
            int[] places = {10, 20, 21};
            int[] from = {6, 101, 5};
            for (int i = 0; i < 3; i++) {
                Due.is("the first hole", office.hole(PROOF, 0), places[i]);
                Due.is("filled from " + from[i], office.fill(PROOF, from[i]), 2 - i);
                Due.is("holes that are left", office.hole(PROOF, -1), 2 - i);
            }
            Due.is("none is left", office.fill(PROOF, 4), DeedProofs.STATE);
            Due.is("taken", office.check(PROOF, 5), 1);
            Due.is("leans on those", office.leans(PROOF), 7 << 4);
        }
    }

    /** "says the FACT of that TERM": by the letters of the HOLE's own STEP, whatever was asked for ahead of it. */
    private static void fillByItsOwnLetters() {
        DeedProofs office = piece();
        office.proof(Offices.LINE);
        Offices.step(office, 10, 3, "3210", 5);
        Due.is("another proof's letters", office.says(10, 0, 5), Due.fact("o321"));
        Due.is("do not count", office.fill(PROOF, 5), DeedProofs.STATE);
        Due.is("check of another", office.check(10, 5), 1);
        Due.is("from a paper", office.fill(PROOF, 4), 2);
    }

    /** "from (0 .. 19, 100 and i)": the first PAPER and the last, the first STEP and the last that is earlier. */
    private static void fillFromEndToEnd() {
        for (int from : new int[] {0, 19, 100, 110}) {
            DeedProofs office = new DeedProofs();
            Due.rule(office, "o(a,b,c)>o(a,b,c)");
            for (int i = 0; i < 20; i++) {
                office.paper(Due.fact("o123"), 0);
            }
            office.proof(Offices.PIECE);
            for (int s = 0; s < 12; s++) {
                Offices.step(office, 0, 0, "1230", s == 11 ? 300 : 5);
            }
            Due.is("the hole", office.hole(0, 0), 110);
            Due.is("from its own", office.fill(0, 111), DeedProofs.STATE);
            Due.is("filled from " + from, office.fill(0, from), 0);
            Due.is("taken", office.check(0, 0), 1);
        }
    }

    /** "from a PAPER, or an earlier STEP, that says the FACT of that TERM": it needn't be good. */
    private static void fillFromAStepThatLacks() {
        DeedProofs office = piece();
        office.shown(4, true);
        Due.is("the earlier step lacks", office.lacks(PROOF, 0, 5), 10);
        Due.is("filled from it", office.fill(PROOF, 100), 2);
        Due.is("what is made from it lacks", office.lacks(PROOF, 1, 5), 10);
        office.shown(4, false);
        Due.is("no more then", office.lacks(PROOF, 1, 5), 0);
    }

    /** STATE is told for no other reason: a TITLE does not hinder it. */
    private static void fillATitle() {
        DeedProofs office = open();
        Due.is("title of an open one", office.title(PROOF), 2);
        Due.is("no step more", Offices.step(office, PROOF, 3, "1230", 4), DeedProofs.STATE);
        Due.is("filled", office.fill(PROOF, 4), 2);
        Due.is("stands", office.stand(2, 5), 1);
    }

    /** The same: nor does the use as an end. */
    private static void fillAnEnd() {
        DeedProofs office = open();
        office.proof(Offices.CUT);
        Offices.step(office, 10, 3, "1230", 200 + PROOF);
        Due.is("no step more", Offices.step(office, PROOF, 3, "1230", 4), DeedProofs.STATE);
        Due.is("leans ahead of it", office.leans(10), 1 << 4);
        Due.is("filled", office.fill(PROOF, 6), 2);
        Due.is("leans on what fills it", office.leans(10), 1 << 4 | 1 << 6);
    }
}
