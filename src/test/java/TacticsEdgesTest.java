import java.util.function.Supplier;

/** Terms 5 and promises 30 to 32: a test of its own for each sentence that names a boundary, which stands above it. */
public final class TacticsEdgesTest {
    private static final int LEAST = Integer.MIN_VALUE, MOST = Integer.MAX_VALUE;
    private static final String ALL_SIGNS = "0;(1|2*)*;((((((3*)*))*)))|4*;7*";

    public static void main(String[] args) {
        digitsTooSmallOrTooLarge();
        emptyPieces();
        starsBehindATry();
        openOnesTooMany();
        openOnesRun();
        closedTooOften();
        endsTooEarly();
        wrongByteAtEachPlace();
        wholeTape();
        tacticFull();
        faultEmptiesTheTape();
        runOfNone();
        runWithNoneOrTooMuch();
        runsOutOfWhatItMaySpend();
        spendsTheMost();
        noSuchRule();
        foundRefused();
        foundBeforeARun();
        foundFromEndToEnd();
        Due.end();
    }

    /** "a TRY: a digit 0 .. 7 (a RULE)" */
    private static void digitsTooSmallOrTooLarge() {
        for (char sign : new char[] {'/', '8', '9', 'a', ' ', 0, 127, 176, 255}) {
            fault(String.valueOf(sign), 0);
            fault("0;" + sign, 2);
            fault("(" + sign + ")", 1);
        }
        for (char digit = '0'; digit <= '7'; digit++) {
            reads(String.valueOf(digit));
            fault(digit + "0", 1);
        }
    }

    /** "PIECES with ; between; a PIECE: TRIES with | between": none of them is empty. */
    private static void emptyPieces() {
        fault("", 0);
        fault(";0", 0);
        fault("|0", 0);
        fault("0;;0", 2);
        fault("0||0", 2);
        fault("0;|0", 2);
        fault("0|;0", 2);
        fault("()", 1);
        fault("(;0)", 1);
        fault("(0;)", 3);
        fault("(0|)", 3);
    }

    /** "and perhaps * behind it" */
    private static void starsBehindATry() {
        fault("*", 0);
        fault("0**", 2);
        fault("(0)**", 4);
        fault("(0**)", 3);
        fault("0;*", 2);
        fault("(*0)", 1);
        reads("0*;1*");
        reads("0*|1*;2*");
        reads("(0*)*;3*");
        reads("(0*;1*)*|(2)*");
    }

    /** "At most 6 ( are open." */
    private static void openOnesTooMany() {
        reads("(((((0)))))");
        reads("((((((0))))))");
        reads("((((((0))))));((((((0))))))");
        reads("(((((0;(1));(2)*)))|(((3))))");
        fault("(((((((0)))))))", 6);
        fault("((((((0;(1)))))))", 8);
        fault("((((((0))))));(((((((0)))))))", 20);
        fault("(".repeat(120), 6);
    }

    /** The same, as it runs: what stands in six ( brings what it would alone. */
    private static void openOnesRun() {
        String[] texts = {"0;1", "(0;1)", "(((((0;1)))))", "((((((0;1))))))", "(((((0;(1))))))", "0;((((((1))))))",
            "((((((0))))));1"};
        for (String text : texts) {
            DeedProofs office = chain(text);
            Due.is(text + " finds", office.run(0, 200, 0), 9);
            Due.is(text + " spends", office.run(0, 200, 1), 2);
        }
        DeedProofs starred = chain("((((((0)*)*)*)*)*)*");
        Due.is("stars on each find", starred.run(0, 200, 0), 10);
        Due.is("stars on each spend", starred.run(0, 200, 1), 10);
    }

    /** "or ( TACTIC )": a ) needs a ( that is open. */
    private static void closedTooOften() {
        fault(")", 0);
        fault("0)", 1);
        fault("(0))", 3);
        fault("((0)*)*)", 7);
        fault("0(", 1);
        fault("0*(1)", 2);
        fault("(0)1", 3);
        fault("(0)(1)", 3);
    }

    /** "FAULT likewise": "the size, if it ends too early" */
    private static void endsTooEarly() {
        for (int size = 0; size <= ALL_SIGNS.length(); size++) {
            String start = ALL_SIGNS.substring(0, size);
            char last = size == 0 ? ';' : start.charAt(size - 1);
            boolean wanting = last == ';' || last == '|' || last == '(';
            boolean isOpen = start.chars().filter(c -> c == '(').count() > start.chars().filter(c -> c == ')').count();
            if (wanting || isOpen) {
                fault(start, size);
            } else {
                reads(start);
            }
        }
    }

    /** "FAULT likewise": "the place of the first byte with which no RULE can go on" */
    private static void wrongByteAtEachPlace() {
        for (int place = 0; place <= ALL_SIGNS.length(); place++) {
            fault(ALL_SIGNS.substring(0, place) + "!" + ALL_SIGNS.substring(place), place);
            fault(ALL_SIGNS.substring(0, place) + (char) 170 + ALL_SIGNS.substring(place), place);
        }
    }

    /** "THE TAPE (bytes, 120 at most)": a TACTIC may be all of it. */
    private static void wholeTape() {
        String[] texts = {"0;".repeat(59) + "0*", "0|".repeat(59) + "0*", "(1);".repeat(29) + "(2)*"};
        int[] spent = {60, 1, 30};
        for (int i = 0; i < texts.length; i++) {
            Due.is("bytes", texts[i].length(), 120);
            DeedProofs office = chain(texts[i]);
            Due.is("spent by all of it", office.run(0, 200, 1), spent[i]);
        }
        fault("0;".repeat(60), 120);
        fault("(0;".repeat(6) + "0;".repeat(51), 120);
    }

    /** "TACTICS are numbered from 0 on, 6 at most." "FULL (THE TAPE stays)." */
    private static void tacticFull() {
        Supplier<DeedProofs> six = () -> {
            DeedProofs office = new DeedProofs();
            Due.rule(office, "o(a,b,c)>s(a,b,c)");
            for (int i = 0; i < 6; i++) {
                Due.is("tactic " + i, Due.tactic(office, "0"), i);
            }
            Due.feed(office, "o(a,b,c)&a<b>l(b,a,c)");
            return office;
        };
        Still.refused("a seventh with a fault", six, DeedProofs.FULL, DeedProofs::tactic);
        Still.refused("a seventh beside all else", Offices.someAnd(Offices.times(5, (some, i) -> Due.tactic(some, "0|1"))),
                DeedProofs.FULL, DeedProofs::tactic);
        Still.refused("a seventh of all the tape", Offices::full, DeedProofs.FULL, DeedProofs::tactic);
        Still.refused("a seventh of no bytes", Offices::fullButTape, DeedProofs.FULL, DeedProofs::tactic);
        Supplier<DeedProofs> good = Offices.then(Offices::fullButTape, office -> Due.feed(office, "0"));
        Still.refused("a seventh without a fault", good, DeedProofs.FULL, DeedProofs::tactic);
        DeedProofs office = six.get();
        office.tactic();
        Due.is("the tape stays", office.count(7), 21);
        Due.is("and is a rule", office.rule(), 1);
        Due.is("with its test", office.told(1, 0, 1), 1);
    }

    /** "THE TAPE, which is empty then, is a TACTIC: its number; -10 less the FAULT." */
    private static void faultEmptiesTheTape() {
        for (String text : new String[] {"", "8", "0;", "(0", "o(a,b,c)>o(a,b,c)"}) {
            Still.alike("a fault of " + text + " changes the tape alone", Offices::some,
                    Offices.then(Offices::some, office -> Due.tactic(office, text)));
        }
        DeedProofs office = Offices.some();
        Due.is("its number", Due.tactic(office, "0"), 1);
        Due.is("empty then", office.count(7), 0);
    }

    /** run: "NONE", with a TACTIC or a what */
    private static void runOfNone() {
        for (int none : new int[] {-1, 1, 6, LEAST, MOST}) {
            Still.refused("run of " + none, Offices::someWithTape, DeedProofs.NONE, office -> office.run(none, 1, 0));
        }
        for (int none : new int[] {-1, 2, LEAST, MOST}) {
            Still.refused("run, what " + none, Offices::someWithTape, DeedProofs.NONE, office -> office.run(0, 1, none));
        }
        Due.is("the sixth", Offices.full().run(5, 1, 1), 1);
        Still.refused("a seventh", Offices::full, DeedProofs.NONE, office -> office.run(6, 1, 1));
    }

    /** run: "with n (1 .. 200)": "BAD" */
    private static void runWithNoneOrTooMuch() {
        for (int n : new int[] {0, -1, LEAST, 201, MOST}) {
            for (int what = 0; what < 2; what++) {
                int asked = what;
                Still.refused("run with " + n, Offices::someWithTape, DeedProofs.BAD, office -> office.run(0, n, asked));
            }
        }
        Due.is("with 1", Offices.some().run(0, 1, 1), 1);
        Due.is("with 200", Offices.some().run(0, 200, 1), 4);
    }

    /** "Each RULE that runs costs 1; when n are spent, it ends (what it brought stays)." */
    private static void runsOutOfWhatItMaySpend() {
        int[] found = {7, 9, 10, 11, 12, 12};
        for (int n = 1; n <= 6; n++) {
            DeedProofs office = chain("0;1;0;1;0");
            Due.is("found with " + n, office.run(0, n, 0), found[n - 1]);
            Due.is("spent with " + n, office.run(0, n, 1), Math.min(n, 5));
        }
        DeedProofs starred = chain("(0|1)*");
        int all = starred.run(0, 200, 1);
        for (int n = 1; n <= all + 1; n++) {
            Due.is("starred with " + n, starred.run(0, n, 1), Math.min(n, all));
        }
        DeedProofs tries = chain("4|5|6|0");
        Due.is("no try is left with 0", tries.run(0, 1, 0), 7);
    }

    /** The same with n 200: a TACTIC that would go on ends there. */
    private static void spendsTheMost() {
        DeedProofs less = chain("(" + "2;".repeat(30) + "0|1)*");
        Due.is("one that ends ahead of it", less.run(0, 200, 1), 188);
        DeedProofs most = chain("(" + "2;".repeat(40) + "0|1)*");
        Due.is("spends all of 200", most.run(0, 200, 1), 200);
        Due.is("spends all of 199", most.run(0, 199, 1), 199);
        Due.is("spends 1 of 1", most.run(0, 1, 1), 1);
    }

    /** "none such: nothing, and it costs nothing" */
    private static void noSuchRule() {
        String deep = "(".repeat(6) + "7*" + ")*".repeat(6);
        for (String text : new String[] {"3", "7", "3*", "(3;4)*", "3|4|7", deep}) {
            DeedProofs office = chain(text);
            Due.is(text + " finds", office.run(0, 1, 0), 6);
            Due.is(text + " spends", office.run(0, 1, 1), 0);
        }
        DeedProofs office = chain("7;7;7;0");
        Due.is("one behind them runs", office.run(0, 1, 0), 7);
        DeedProofs tries = chain("7|0|1");
        Due.is("brings nothing new, so the next runs", tries.run(0, 9, 1), 1);
        DeedProofs later = chain("3");
        Due.rule(later, "o(a,b,c)>w(c,c,c)");
        Due.is("a rule that came later runs", later.run(0, 1, 1), 1);
    }

    /** found: "BAD: fact" */
    private static void foundRefused() {
        for (int fact : new int[] {-1, 750, LEAST, MOST}) {
            Still.refused("found " + fact, Offices::someWithTape, DeedProofs.BAD, office -> office.found(fact));
            Still.refused("found " + fact + " ahead of a run", DeedProofs::new, DeedProofs.BAD, office -> office.found(fact));
        }
    }

    /** found: "STATE: none ran." */
    private static void foundBeforeARun() {
        Supplier<DeedProofs> unrun = () -> {
            DeedProofs office = chain("0");
            office.run(0, 0, 0);
            office.run(1, 1, 0);
            return office;
        };
        Supplier<DeedProofs> some = Offices.then(Offices::unrun, office -> {
            office.image();
            office.day(1);
            Due.feed(office, "s(a,b,c)>l(b,a,c)");
        });
        for (int fact : new int[] {0, 1, 749}) {
            Still.refused("found " + fact, unrun, DeedProofs.STATE, office -> office.found(fact));
            Still.refused("found " + fact + " beside all else", some, DeedProofs.STATE, office -> office.found(fact));
        }
        DeedProofs office = unrun.get();
        office.run(0, 1, 1);
        Due.is("one ran", office.found(0), 1);
        DeedProofs empty = new DeedProofs();
        Due.tactic(empty, "0");
        Due.is("one that finds nothing", empty.run(0, 1, 0), 0);
        Due.is("ran too", empty.found(0), 0);
    }

    /** "Whether a FACT was FOUND by the latest run()": the least and the greatest. */
    private static void foundFromEndToEnd() {
        DeedProofs office = new DeedProofs();
        Due.rule(office, "o(a,b,c)>w(4,4,4)");
        office.paper(0, 0);
        Due.tactic(office, "0");
        Due.tactic(office, "7");
        Due.is("two are found", office.run(0, 1, 0), 2);
        int count = 0;
        for (int fact = 0; fact < 250; fact++) {
            count += office.found(fact);
        }
        Due.is("one below 250", count, 1);
        Due.is("the least", office.found(0), 1);
        Due.is("the greatest", office.found(749), 1);
        Due.is("the one below", office.found(748), 0);
        office.run(1, 1, 0);
        Due.is("not by the latest", office.found(749), 0);
        Due.is("a refused run is none", office.run(0, 201, 0), DeedProofs.BAD);
        Due.is("so it stays", office.found(749), 0);
    }

    /**
     * PAPERS: o000 and w010, w120, w230, w340, and l000 (6 FACTS); RULE 0 goes from n to the next, RULE 1 brings s of each o,
     * RULE 2 nothing.
     */
    private static DeedProofs chain(String tactic) {
        DeedProofs office = new DeedProofs();
        Due.rule(office, "o(a,b,c)&w(c,d,0)>o(a,b,d)");
        Due.rule(office, "o(a,b,c)>s(a,b,c)");
        Due.rule(office, "h(a,b,c)>m(a,b,c)");
        office.paper(0, 0);
        for (int i = 0; i < 4; i++) {
            office.paper(Due.fact("w010") + 30 * i, 0);
        }
        office.paper(Due.fact("l000"), 0);
        Due.is("tactic " + tactic, Due.tactic(office, tactic), 0);
        return office;
    }

    private static void reads(String text) {
        DeedProofs office = new DeedProofs();
        Due.is("tactic " + text, Due.tactic(office, text), 0);
        Due.is("tape after " + text, office.count(7), 0);
        Due.is("tactics after " + text, office.count(6), 1);
    }

    private static void fault(String text, int place) {
        DeedProofs office = new DeedProofs();
        Due.is("tactic " + text, Due.tactic(office, text), -10 - place);
        Due.is("tape after " + text, office.count(7), 0);
        Due.is("tactics after " + text, office.count(6), 0);
    }
}
