import java.util.function.Consumer;
import java.util.function.Supplier;

/**
 * "Nothing is promised beyond the answers and state changes described above": calls that only ask change nothing,
 * neither what other calls answer then nor THE TAPE, THE IMAGE and FOUND; and no object changes another.
 */
public final class AskingTest {
    public static void main(String[] args) {
        asksOfRulesAndPapers();
        asksOfProofs();
        asksOfTitles();
        asksOfTheRest();
        runChangesFoundAlone();
        askedTwice();
        twoOffices();
        Due.end();
    }

    private static void still(String name, Consumer<DeedProofs> ask) {
        Supplier<DeedProofs> asked = Offices.then(Offices::someWithTape, ask);
        Still.alike(name + " changes nothing", Offices::someWithTape, asked);
    }

    private static void asksOfRulesAndPapers() {
        for (int i = 0; i < 3; i++) {
            int what = i;
            still("told " + what, office -> office.told(1, 9, what));
            still("of " + what, office -> office.of(2, what));
            still("follows " + what, office -> office.follows(Due.fact("l213"), 9, what));
        }
        still("many", office -> office.many(9));
    }

    private static void asksOfProofs() {
        for (int i = 0; i < 9; i++) {
            int proof = i;
            still("lacks of " + proof, office -> office.lacks(proof, 0, 9));
            still("says of " + proof, office -> office.says(proof, -1, 9));
            still("check of " + proof, office -> office.check(proof, 9));
            still("leans of " + proof, office -> office.leans(proof));
            still("hole of " + proof, office -> office.hole(proof, 0));
            still("act of " + proof, office -> office.act(proof, 2, 77));
            still("as of " + proof, office -> office.as(proof, 0));
        }
    }

    private static void asksOfTitles() {
        still("stand", office -> office.stand(1, 9));
        still("carry", office -> office.carry(1, 9));
        still("clash", office -> office.clash(0, 1));
        for (int i = 0; i < 4; i++) {
            int paper = i;
            still("fall of " + paper, office -> office.fall(paper));
        }
        for (String fact : new String[] {"o213", "l213", "w000", "m444"}) {
            still("every " + fact, office -> office.every(Due.fact(fact)));
            still("enough " + fact, office -> office.enough(Due.fact(fact), 11));
            still("could " + fact, office -> office.could(3, Due.fact(fact)));
        }
    }

    private static void asksOfTheRest() {
        still("found", office -> office.found(Due.fact("o213")));
        for (int i = 0; i < 8; i++) {
            int what = i;
            still("count " + what, office -> office.count(what));
        }
    }

    /** "A TACTIC RUNS": what it brings is FOUND, and FOLLOWS no more than before. */
    private static void runChangesFoundAlone() {
        Supplier<DeedProofs> again = Offices.then(Offices::someWithTape, office -> office.run(0, 3, 0));
        Still.alike("the same run once more", Offices::someWithTape, again);
        Supplier<DeedProofs> more = Offices.then(Offices::someWithTape, office -> office.run(0, 1, 1));
        Supplier<DeedProofs> back = Offices.then(more, office -> office.run(0, 3, 0));
        Still.unlike("a run that brings less", Offices::someWithTape, more);
        Still.alike("and the first one behind it", Offices::someWithTape, back);
    }

    /** The same calls give the same answers, whatever was asked between. */
    private static void askedTwice() {
        DeedProofs office = Offices.some();
        int first = answers(office);
        office.could(3, Due.fact("l213"));
        office.fall(0);
        office.run(0, 200, 0);
        Due.is("all answers once more", answers(office), first);
    }

    private static int answers(DeedProofs office) {
        int all = 0;
        for (int day = 0; day < 10; day++) {
            for (int proof = 0; proof < 9; proof++) {
                all = 31 * all + office.check(proof, day);
            }
            all = 31 * all + office.many(day);
            all = 31 * all + office.follows(Due.fact("l213"), day, 2);
            all = 31 * all + office.follows(Due.fact("l213"), day, 1);
        }
        return all;
    }

    /** "DeedProofs(): No RULES, no PAPERS": whatever others have. */
    private static void twoOffices() {
        DeedProofs full = Offices.full();
        DeedProofs fresh = new DeedProofs();
        for (int what = 0; what < 8; what++) {
            Due.is("count " + what + " of a new one", fresh.count(what), 0);
        }
        Due.is("no image", fresh.undo(), DeedProofs.STATE);
        Due.is("none ran", fresh.found(0), DeedProofs.STATE);
        Due.rule(fresh, "o(a,b,c)>w(a,b,c)");
        fresh.paper(0, 0);
        Due.is("what follows in one", fresh.many(0), 2);
        Due.is("what follows in the other", full.many(999), 40);
        Due.is("once more in one", fresh.follows(Due.fact("w000"), 0, 2), 2);
        Due.is("not in the other", full.follows(Due.fact("w000"), 0, 2), -5);
        fresh.image();
        fresh.day(3);
        Due.is("undo in the other", full.undo(), 0);
        Due.is("undo in one", fresh.undo(), 0);
        Due.is("papers of one", fresh.count(3), 1);
        Due.is("papers of the other", full.count(3), 20);
    }
}
