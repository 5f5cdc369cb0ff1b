/** Promises 30 to 32: tactic, run, found. */
public final class TacticsTest {
    public static void main(String[] args) {
        reading();
        faults();
        full();
        runRefusals();
        oneRule();
        pieces();
        tries();
        stars();
        spending();
        finding();
        Due.end();
    }

    private static void reading() {
        String[] texts = {"0", "7*", "0;1;2", "0|1|2;3*|(4)*", "((((((0))))))", "(0*)*;(1|(2;3)*)*|(4)"};
        DeedProofs office = new DeedProofs();
        for (int i = 0; i < texts.length; i++) {
            Due.is(texts[i], Due.tactic(office, texts[i]), i);
            Due.is("empty then", office.count(7), 0);
            Due.is("tactics", office.count(6), i + 1);
        }
    }

    private static void faults() {
        fault("", 0);
        fault("8", 0);
        fault("*", 0);
        fault(";", 0);
        fault("|", 0);
        fault(")", 0);
        fault("a", 0);
        fault("(", 1);
        fault("()", 1);
        fault("(0", 2);
        fault("(0;", 3);
        fault("0)", 1);
        fault("0(", 1);
        fault("00", 1);
        fault("0*1", 2);
        fault("0**", 2);
        fault("0*(", 2);
        fault("(0)**", 4);
        fault("0;;", 2);
        fault("0;|", 2);
        fault("0|", 2);
        fault("0|*", 2);
        fault("0;", 2);
        fault("(((((((0)))))))", 6);
        fault("((((((0))))));(((((((0)))))))", 20);
        fault("(0))", 3);
        fault("0 ", 1);
        String edge = "0" + (char) 255;
        fault(edge, 1);
    }

    private static void fault(String text, int place) {
        DeedProofs office = new DeedProofs();
        Due.is("tactic " + text, Due.tactic(office, text), -10 - place);
        Due.is("tape after " + text, office.count(7), 0);
        Due.is("tactics after " + text, office.count(6), 0);
    }

    private static void full() {
        DeedProofs office = new DeedProofs();
        for (int i = 0; i < 6; i++) {
            Due.is("tactic", Due.tactic(office, "0"), i);
        }
        Due.is("a seventh", Due.tactic(office, "0"), DeedProofs.FULL);
        Due.is("its tape stays", office.count(7), 1);
        Due.is("a faulty one", Due.tactic(office, "x"), DeedProofs.FULL);
        Due.is("tape stays", office.count(7), 2);
        Due.is("tactics", office.count(6), 6);
    }

    private static void runRefusals() {
        DeedProofs office = new DeedProofs();
        Due.is("no tactic", office.run(0, 0, 0), DeedProofs.NONE);
        Due.tactic(office, "0");
        Due.is("tactic 1", office.run(1, 1, 0), DeedProofs.NONE);
        Due.is("tactic -1", office.run(-1, 1, 0), DeedProofs.NONE);
        Due.is("what 2", office.run(0, 0, 2), DeedProofs.NONE);
        Due.is("what -1", office.run(0, 1, -1), DeedProofs.NONE);
        Due.is("n 0", office.run(0, 0, 0), DeedProofs.BAD);
        Due.is("n 201", office.run(0, 201, 0), DeedProofs.BAD);
        Due.is("none ran", office.found(0), DeedProofs.STATE);
        Due.is("bad ahead of state", office.found(750), DeedProofs.BAD);
        Due.is("bad", office.found(-1), DeedProofs.BAD);
        Due.is("n 200", office.run(0, 200, 0), 0);
        Due.is("ran", office.found(0), 0);
    }

    /** Rule 0 goes a step along n from 0 to 4; rule 1 turns o to s; rule 2 s to h. */
    private static DeedProofs office(String... tactics) {
        DeedProofs office = new DeedProofs();
        Due.rule(office, "o(a,b,0)>o(a,b,1)");
        Due.rule(office, "o(a,b,c)>s(a,b,c)");
        Due.rule(office, "s(a,b,c)>h(a,b,c)");
        Due.rule(office, "o(a,b,c)&o(a,b,d)&c<d>o(a,d,d)");
        office.paper(Due.fact("o000"), 0);
        office.paper(Due.fact("w000"), 0);
        for (String tactic : tactics) {
            Due.tactic(office, tactic);
        }
        return office;
    }

    private static void expect(String tactic, int n, int found, int spent) {
        DeedProofs office = office(tactic);
        Due.is(tactic + " with " + n, office.run(0, n, 0), found);
        Due.is(tactic + " with " + n + " spends", office.run(0, n, 1), spent);
    }

    private static void oneRule() {
        expect("0", 9, 3, 1);
        expect("2", 9, 2, 1);
        expect("7", 9, 2, 0);
        expect("7*", 9, 2, 0);
        // Ends come by what was found ahead of the rule alone.
        DeedProofs office = new DeedProofs();
        Due.rule(office, "o(a,b,c)>o(c,a,b)");
        office.paper(Due.fact("o123"), 0);
        Due.tactic(office, "0");
        Due.tactic(office, "0;0");
        Due.tactic(office, "0*");
        Due.is("once", office.run(0, 9, 0), 2);
        Due.is("came", office.found(Due.fact("o312")), 1);
        Due.is("not yet", office.found(Due.fact("o231")), 0);
        Due.is("twice", office.run(1, 9, 0), 3);
        Due.is("came then", office.found(Due.fact("o231")), 1);
        Due.is("again and again", office.run(2, 9, 0), 3);
        Due.is("and once for nothing", office.run(2, 9, 1), 3);
    }

    private static void pieces() {
        expect("0;1", 9, 5, 2);
        expect("1;0", 9, 4, 2);
        expect("0;1;2", 9, 7, 3);
        expect("2;1;0", 9, 4, 3);
        expect("0;7;1", 9, 5, 2);
        expect("0;3", 9, 4, 2);
        expect("3;0", 9, 3, 2);
    }

    private static void tries() {
        expect("0|1", 9, 3, 1);
        expect("2|1|0", 9, 3, 2);
        expect("7|1|0", 9, 3, 1);
        expect("2|3|7", 9, 2, 2);
        expect("2|1;2", 9, 4, 3);
        expect("(2;1)|0", 9, 3, 2);
        expect("(2;3)|0", 9, 3, 3);
        expect("0|1;0|1", 9, 5, 3);
        expect("0*|1", 9, 3, 2);
    }

    private static void stars() {
        expect("1*", 9, 3, 2);
        expect("(0;1)*", 9, 5, 4);
        expect("(1;0)*", 9, 5, 6);
        expect("(0|1|2)*", 20, 7, 9);
        expect("((0|1)*;2)*", 20, 7, 9);
        expect("(7*)*", 9, 2, 0);
        expect("(0*)*", 9, 3, 3);
    }

    private static void spending() {
        expect("(0;1)*", 1, 3, 1);
        expect("(0;1)*", 2, 5, 2);
        expect("(0;1)*", 3, 5, 3);
        expect("0;1;2", 2, 5, 2);
        expect("2|1|0", 1, 2, 1);
        expect("2;7;1", 1, 2, 1);
        DeedProofs wide = office("0", "0", "0", "0", "0", "0;".repeat(59) + "0*");
        Due.is("of 120 bytes", wide.run(5, 200, 1), 60);
        Due.is("with brackets", Due.tactic(office(), "(1);".repeat(29) + "(2)*"), 0);
        DeedProofs office = office("0;0;0;0;0;0;0;0;0;0;0;0;0;0;0;0;0;0;0;0;0;0;0;0;0;0;0;0;0;0");
        Due.is("thirty", office.run(0, 200, 1), 30);
        Due.is("of them 29", office.run(0, 29, 1), 29);
    }

    private static void finding() {
        DeedProofs office = office("0", "1");
        office.run(0, 1, 1);
        Due.is("a paper's", office.found(Due.fact("w000")), 1);
        Due.is("brought", office.found(Due.fact("o001")), 1);
        Due.is("not brought", office.found(Due.fact("s000")), 0);
        Due.is("follows needn't be found", office.follows(Due.fact("s000"), 0, 0), 1);
        office.run(1, 1, 0);
        Due.is("the latest run's", office.found(Due.fact("o001")), 0);
        Due.is("brought by it", office.found(Due.fact("s000")), 1);
        office.many(0);
        Due.is("no run refused changes it", office.run(2, 1, 0), DeedProofs.NONE);
        Due.is("stays", office.found(Due.fact("s000")), 1);
        office.shown(0, true);
        Due.is("as it was found then", office.found(Due.fact("o000")), 1);
        Due.is("false papers are not found", office.run(1, 1, 0), 1);
        Due.is("not this one", office.found(Due.fact("o000")), 0);
        office.shown(0, false);
        Due.change(office, 1, 4, "o(a,b,c)>m(a,b,c)");
        office.run(1, 1, 0);
        Due.is("by the text of today", office.found(Due.fact("s000")), 1);
        office.day(4);
        office.run(1, 1, 0);
        Due.is("by its later text", office.found(Due.fact("m000")), 1);
        Due.is("not by the earlier", office.found(Due.fact("s000")), 0);
    }
}
