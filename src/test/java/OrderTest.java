import java.util.function.Supplier;
import java.util.function.ToIntFunction;

/**
 * Terms 6: "REFUSALS, of several the first one told: NONE .., BAD .., STATE .., FULL. They change nothing."
 * Each call here has two reasons or more to be refused.
 */
public final class OrderTest {
    private static final int NONE = DeedProofs.NONE, BAD = DeedProofs.BAD, STATE = DeedProofs.STATE, FULL = DeedProofs.FULL;

    public static void main(String[] args) {
        feedAndChange();
        toldAndPapers();
        follows();
        proofAndStep();
        stepStateAndFull();
        lacksSaysCheck();
        titles();
        couldAndEnough();
        tactics();
        refusalsAheadOfFaults();
        Due.end();
    }

    private static void full(String name, int due, ToIntFunction<DeedProofs> call) {
        Still.refused(name, Offices::full, due, call);
    }

    private static void some(String name, int due, ToIntFunction<DeedProofs> call) {
        Still.refused(name, Offices::someWithTape, due, call);
    }

    private static void feedAndChange() {
        full("feed: BAD, FULL", BAD, office -> office.feed(0, 9));
        full("feed: BAD, FULL", BAD, office -> office.feed(0, 0));
        some("change: NONE, BAD", NONE, office -> office.change(3, 4));
        some("change: NONE, BAD", NONE, office -> office.change(-1, 1000));
        full("change: NONE, FULL", NONE, office -> office.change(8, 999));
        full("change: NONE, BAD, FULL", NONE, office -> office.change(8, 998));
        full("change: BAD, FULL", BAD, office -> office.change(0, 998));
        full("change: BAD, FULL", BAD, office -> office.change(0, 1000));
    }

    private static void toldAndPapers() {
        some("told: NONE of a rule, BAD", NONE, office -> office.told(3, 1000, 0));
        some("told: NONE of a what, BAD", NONE, office -> office.told(0, -1, 3));
        some("paper: NONE, BAD", NONE, office -> office.paper(750, 5));
        full("paper: NONE, FULL", NONE, office -> office.paper(0, 5));
        full("paper: NONE, BAD, FULL", NONE, office -> office.paper(-1, -1));
        full("paper: BAD, FULL", BAD, office -> office.paper(750, 0));
    }

    private static void follows() {
        some("follows: NONE, BAD of a fact", NONE, office -> office.follows(750, 5, 3));
        some("follows: NONE, BAD of a day", NONE, office -> office.follows(0, 1000, -1));
        some("follows: NONE, BAD of both", NONE, office -> office.follows(-1, -1, 3));
    }

    private static void proofAndStep() {
        full("proof: NONE, FULL", NONE, office -> office.proof(5));
        some("step: NONE of a proof, BAD", NONE, office -> office.step(9, 0, 625, 1, 0, 0, 0));
        some("step: NONE of a rule, BAD", NONE, office -> office.step(5, 3, 0, 4, 0, 0, 0));
        some("step: NONE of a rule, STATE by a title", NONE, office -> office.step(0, 3, 0, 1, 0, 0, 0));
        some("step: NONE of a rule, STATE by an end", NONE, office -> office.step(Offices.USED_AS_AN_END, 3, 0, 1, 0, 0, 0));
        full("step: NONE of a rule, FULL", NONE, office -> office.step(11, 8, 0, 1, 0, 0, 0));
        some("step: BAD letters, STATE by a title", BAD, office -> office.step(0, 0, 625, 1, 0, 0, 0));
        some("step: BAD terms, STATE by an end", BAD, office -> office.step(Offices.USED_AS_AN_END, 0, 0, 0, 0, 0, 0));
        full("step: BAD letters, FULL", BAD, office -> office.step(11, 0, -1, 1, 0, 0, 0));
        full("step: BAD terms, FULL", BAD, office -> office.step(11, 0, 0, 4, 0, 0, 0));
    }

    /** A PROOF of 12 STEPS that has a TITLE, and one that is used as an end. */
    private static void stepStateAndFull() {
        Supplier<DeedProofs> making = () -> {
            DeedProofs office = new DeedProofs();
            Due.rule(office, "s(a,b,c)>o(b,a,c)");
            Due.rule(office, "o(a,b,c)>l(a,b,c)");
            office.paper(Due.fact("s123"), 0);
            for (int proof = 0; proof < 2; proof++) {
                office.proof(Offices.LINE);
                for (int s = 0; s < 12; s++) {
                    Offices.step(office, proof, 0, "1230", 0);
                }
            }
            office.title(0);
            office.proof(Offices.SHARED);
            Offices.step(office, 2, 1, "2130", 201);
            return office;
        };
        for (int proof = 0; proof < 2; proof++) {
            int asked = proof;
            Still.refused("step: STATE, FULL", making, STATE, office -> Offices.step(office, asked, 0, "1230", 0));
            Still.refused("step: BAD, STATE, FULL", making, BAD, office -> office.step(asked, 0, 625, 1, 0, 0, 0));
            Still.refused("step: NONE, BAD, STATE, FULL", making, NONE, office -> office.step(asked, 2, 625, 0, 0, 0, 0));
        }
    }

    private static void lacksSaysCheck() {
        some("lacks: NONE of a proof, BAD", NONE, office -> office.lacks(9, 0, 1000));
        some("lacks: NONE of a step, BAD", NONE, office -> office.lacks(0, 1, -1));
        some("says: NONE of a proof, BAD", NONE, office -> office.says(9, -1, 1000));
        some("says: NONE of a step, BAD", NONE, office -> office.says(0, -2, 1000));
        some("check: NONE, BAD", NONE, office -> office.check(-1, -1));
    }

    private static void titles() {
        full("title: NONE, FULL", NONE, office -> office.title(12));
        full("title: STATE by its fact, FULL", STATE, office -> office.title(11));
        full("title: STATE by its own title, FULL", STATE, office -> office.title(9));
        Still.refused("title: STATE, as it isn't taken, FULL", Offices.then(Offices::full, office -> office.shown(10, true)),
                STATE, office -> office.title(10));
        some("stand: NONE, BAD", NONE, office -> office.stand(2, 1000));
        some("carry: NONE, BAD", NONE, office -> office.carry(-1, -1));
        some("clash: NONE, BAD", NONE, office -> office.clash(2, 2));
        some("clash: NONE, BAD", NONE, office -> office.clash(-1, -1));
    }

    private static void couldAndEnough() {
        some("could: NONE, BAD", NONE, office -> office.could(5, 750));
        some("enough: BAD twice", BAD, office -> office.enough(750, -1));
    }

    private static void tactics() {
        some("run: NONE of a tactic, BAD", NONE, office -> office.run(1, 0, 0));
        some("run: NONE of a what, BAD", NONE, office -> office.run(0, 201, 2));
        Still.refused("found: BAD, STATE", DeedProofs::new, BAD, office -> office.found(750));
    }

    /** A FAULT is no refusal: it is told only if there is none, and THE TAPE stays with a refusal. */
    private static void refusalsAheadOfFaults() {
        Supplier<DeedProofs> faulty = Offices.then(Offices::some, office -> Due.feed(office, "x"));
        Still.refused("change: NONE, a fault", faulty, NONE, office -> office.change(3, 5));
        Still.refused("change: BAD, a fault", faulty, BAD, office -> office.change(0, 4));
        full("change: FULL, a fault", FULL, office -> office.change(0, 999));
        full("rule: FULL, a fault", FULL, DeedProofs::rule);
        full("tactic: FULL, a fault", FULL, DeedProofs::tactic);
        Due.is("change: a fault", faulty.get().change(0, 5), -10);
        Due.is("rule: a fault", faulty.get().rule(), -10);
        Due.is("tactic: a fault", faulty.get().tactic(), -10);
    }
}
