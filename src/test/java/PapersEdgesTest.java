import java.util.function.Supplier;

/** Terms 2 and promises 7 to 11: a test of its own for each sentence that names a boundary, which stands above it. */
public final class PapersEdgesTest {
    private static final int LEAST = Integer.MIN_VALUE, MOST = Integer.MAX_VALUE;

    public static void main(String[] args) {
        factsFromEndToEnd();
        paperOfNoPerson();
        paperOfNoFact();
        paperFull();
        shownOfNone();
        falseAndTrueAgain();
        ofNone();
        followsWhat();
        followsFactAndDay();
        followsNot();
        paperIsTheLeast();
        heightsOfLesser();
        sizeAtMost();
        manyOnADay();
        manyOfNoneAndOfAll();
        Due.end();
    }

    /** "as a number: 125 times the SHAPE, 25 x, 5 y and n together"; "BAD: fact (0 .. 749)" */
    private static void factsFromEndToEnd() {
        String shapes = "oshmlw";
        for (int shape = 0; shape < 6; shape++) {
            for (int arguments = 0; arguments < 125; arguments++) {
                DeedProofs office = new DeedProofs();
                int fact = 125 * shape + arguments;
                String ends = "(" + arguments / 25 + "," + arguments / 5 % 5 + "," + arguments % 5 + ")";
                Due.rule(office, shapes.charAt(shape) + ends + ">" + shapes.charAt(5 - shape) + ends);
                Due.is("paper of " + fact, office.paper(fact, 0), 0);
                Due.is("fact of the paper", office.of(0, 0), fact);
                Due.is("what follows from " + fact, office.follows(125 * (5 - shape) + arguments, 0, 1), 1);
                Due.is("and no more", office.many(0), 2);
            }
        }
    }

    /** "each .. is of a PERSON (0 .. 4)"; "NONE: person" */
    private static void paperOfNoPerson() {
        for (int person : new int[] {-1, 5, LEAST, MOST}) {
            Still.refused("paper of " + person, Offices::someWithTape, DeedProofs.NONE, office -> office.paper(0, person));
        }
        for (int person = 0; person < 5; person++) {
            DeedProofs office = Offices.some();
            Due.is("a paper of " + person, office.paper(0, person), 4);
            Due.is("is of that person", office.of(4, 1), person);
        }
    }

    /** "BAD: fact (0 .. 749)" */
    private static void paperOfNoFact() {
        for (int fact : new int[] {-1, 750, LEAST, MOST}) {
            Still.refused("paper " + fact, Offices::someWithTape, DeedProofs.BAD, office -> office.paper(fact, 0));
        }
        Due.is("the least", Offices.some().paper(0, 0), 4);
        Due.is("the greatest", Offices.some().paper(749, 0), 4);
    }

    /** "PAPERS are numbered from 0 on, 20 at most" */
    private static void paperFull() {
        DeedProofs office = new DeedProofs();
        for (int i = 0; i < 20; i++) {
            Due.is("paper " + i, office.paper(7, 0), i);
        }
        Due.is("a 21st", office.paper(7, 0), DeedProofs.FULL);
        Due.is("the last is there", office.of(19, 0), 7);
        Still.refused("a 21st", Offices::full, DeedProofs.FULL, full -> full.paper(7, 0));
        Still.refused("a 21st beside all else", Offices.someAnd(Offices.times(16, (some, i) -> some.paper(7, i % 5))),
                DeedProofs.FULL, full -> full.paper(7, 0));
        Supplier<DeedProofs> falsePapers = Offices.then(Offices::full, full -> full.shown(3, true));
        Still.refused("a 21st beside a false one", falsePapers, DeedProofs.FULL, full -> full.paper(7, 0));
    }

    /** shown: "NONE." */
    private static void shownOfNone() {
        for (int paper : new int[] {-1, 4, 19, 20, 32, 36, LEAST, MOST}) {
            Still.refused(paper + " shown false", Offices::someWithTape, DeedProofs.NONE, office -> office.shown(paper, true));
            Still.refused(paper + " shown true", Offices::someWithTape, DeedProofs.NONE, office -> office.shown(paper, false));
        }
        Due.is("the last of twenty", Offices.full().shown(19, true), 0);
        Still.refused("a 21st", Offices::full, DeedProofs.NONE, office -> office.shown(20, true));
    }

    /** "Each may be shown FALSE, and true again."; "whether it was FALSE" */
    private static void falseAndTrueAgain() {
        DeedProofs office = Offices.full();
        for (int paper : new int[] {0, 19}) {
            Due.is("shown true", office.shown(paper, false), 0);
            Due.is("shown false", office.shown(paper, true), 0);
            Due.is("it is", office.of(paper, 2), 1);
            Due.is("shown false again", office.shown(paper, true), 1);
            Due.is("its fact doesn't follow", office.follows(Due.fact("s000") + paper, 0, 0), 0);
            Due.is("shown true again", office.shown(paper, false), 1);
            Due.is("it is true", office.of(paper, 2), 0);
            Due.is("its fact follows", office.follows(Due.fact("s000") + paper, 0, 0), 1);
        }
        Still.alike("as if nothing had been shown", Offices::some, Offices.then(Offices::some, PapersEdgesTest::showBoth));
    }

    private static void showBoth(DeedProofs office) {
        office.shown(0, true);
        office.shown(0, false);
        office.shown(2, false);
        office.shown(2, true);
    }

    /** of: "NONE." */
    private static void ofNone() {
        for (int none : new int[] {-1, 4, 20, LEAST, MOST}) {
            Still.refused("of " + none, Offices::someWithTape, DeedProofs.NONE, office -> office.of(none, 0));
        }
        for (int what : new int[] {-1, 3, LEAST, MOST}) {
            Still.refused("of, what " + what, Offices::someWithTape, DeedProofs.NONE, office -> office.of(0, what));
        }
        Due.is("of the last", Offices.full().of(19, 1), 4);
        Still.refused("of a 21st", Offices::full, DeedProofs.NONE, office -> office.of(20, 2));
    }

    /** follows: "NONE: what" */
    private static void followsWhat() {
        for (int what : new int[] {-1, 3, LEAST, MOST}) {
            Still.refused("follows, what " + what, Offices::someWithTape, DeedProofs.NONE, office -> office.follows(0, 5, what));
        }
    }

    /** follows: "BAD: fact, day." */
    private static void followsFactAndDay() {
        for (int what = 0; what < 3; what++) {
            int asked = what;
            for (int fact : new int[] {-1, 750, LEAST, MOST}) {
                Still.refused("follows of " + fact, Offices::someWithTape, DeedProofs.BAD,
                        office -> office.follows(fact, 5, asked));
            }
            for (int day : new int[] {-1, 1000, LEAST, MOST}) {
                Still.refused("follows on day " + day, Offices::someWithTape, DeedProofs.BAD,
                        office -> office.follows(0, day, asked));
            }
        }
        DeedProofs office = new DeedProofs();
        office.paper(0, 0);
        office.paper(749, 0);
        for (int day : new int[] {0, 999}) {
            Due.is("the least fact on " + day, office.follows(0, day, 0), 1);
            Due.is("the greatest fact on " + day, office.follows(749, day, 0), 1);
            Due.is("one beside them on " + day, office.follows(748, day, 0), 0);
        }
    }

    /** "-5: it doesn't FOLLOW" */
    private static void followsNot() {
        DeedProofs office = new DeedProofs();
        Due.rule(office, "o(a,b,c)>o(a,b,c)");
        Due.rule(office, "s(a,b,c)>h(a,b,c)");
        Due.rule(office, "h(a,b,c)>s(a,b,c)");
        for (int fact : new int[] {0, Due.fact("s000"), Due.fact("h000"), 749}) {
            Due.is("by itself " + fact, office.follows(fact, 0, 0), 0);
            Due.is("height of " + fact, office.follows(fact, 0, 1), -5);
            Due.is("size of " + fact, office.follows(fact, 0, 2), -5);
        }
    }

    /** "HEIGHT: 0 of those by PAPERS"; "SIZE: 1 of those by PAPERS" */
    private static void paperIsTheLeast() {
        DeedProofs office = new DeedProofs();
        Due.rule(office, "o(a,b,c)>s(a,b,c)");
        Due.rule(office, "s(a,b,c)>o(a,b,c)");
        office.paper(Due.fact("o123"), 0);
        office.paper(Due.fact("s123"), 0);
        for (String fact : new String[] {"o123", "s123"}) {
            Due.is("height of " + fact, office.follows(Due.fact(fact), 0, 1), 0);
            Due.is("size of " + fact, office.follows(Due.fact(fact), 0, 2), 1);
        }
        office.shown(1, true);
        Due.is("height by the rule", office.follows(Due.fact("s123"), 0, 1), 1);
        Due.is("size by the rule", office.follows(Due.fact("s123"), 0, 2), 2);
        office.shown(0, true);
        Due.is("neither by the other", office.follows(Due.fact("s123"), 0, 1), -5);
    }

    /** "by TERMS of lesser HEIGHT, 1 more than the greatest of these"; "the least 1 and the SIZES of the TERMS .. together" */
    private static void heightsOfLesser() {
        DeedProofs office = new DeedProofs();
        Due.rule(office, "o(0,0,0)>s(0,0,0)");
        Due.rule(office, "s(0,0,0)>h(0,0,0)");
        Due.rule(office, "o(0,0,0)&h(0,0,0)&s(0,0,0)>w(0,0,0)");
        Due.rule(office, "w(0,0,0)>s(0,0,0)");
        Due.rule(office, "h(0,0,0)&h(0,0,0)>w(0,0,0)");
        office.paper(Due.fact("o000"), 0);
        Due.is("height is by the greatest", office.follows(Due.fact("w000"), 0, 1), 3);
        Due.is("size counts a term as often as it stands", office.follows(Due.fact("w000"), 0, 2), 7);
        Due.is("a later way is no lower", office.follows(Due.fact("s000"), 0, 1), 1);
        Due.is("nor smaller", office.follows(Due.fact("s000"), 0, 2), 2);
    }

    /** "SIZE (100000 at most" */
    private static void sizeAtMost() {
        DeedProofs office = new DeedProofs();
        Due.rule(office, "o(a,b,c)&o(a,b,c)&w(c,d,0)>o(a,b,d)");
        Due.rule(office, "o(a,b,4)&w(b,d,0)>o(a,d,0)");
        Due.rule(office, "o(0,3,2)&o(0,3,1)&o(0,3,0)>s(0,0,0)");
        Due.rule(office, "s(0,0,0)&o(0,2,3)&o(0,2,2)>s(0,0,1)");
        Due.rule(office, "s(0,0,1)&o(0,1,3)&o(0,1,1)>s(0,0,2)");
        Due.rule(office, "s(0,0,2)&o(0,0,4)&o(0,0,0)>s(0,0,3)");
        Due.rule(office, "s(0,0,3)>h(0,0,3)");
        Due.rule(office, "h(a,b,c)>m(a,b,c)");
        office.paper(Due.fact("o000"), 0);
        for (int i = 0; i < 4; i++) {
            office.paper(Due.fact("w010") + 30 * i, 0);
        }
        Due.is("far below", office.follows(Due.fact("o032"), 0, 2), 51334);
        Due.is("one less", office.follows(Due.fact("s003"), 0, 2), 99999);
        Due.is("just as many", office.follows(Due.fact("h003"), 0, 2), 100000);
        Due.is("one more", office.follows(Due.fact("m003"), 0, 2), 100000);
        Due.is("twice as many", office.follows(Due.fact("o033"), 0, 2), 100000);
        Due.is("far more", office.follows(Due.fact("o044"), 0, 2), 100000);
        Due.is("it follows", office.follows(Due.fact("o044"), 0, 0), 1);
        Due.is("its height", office.follows(Due.fact("o044"), 0, 1), 24);
    }

    /** many: "BAD." */
    private static void manyOnADay() {
        for (int day : new int[] {-1, 1000, LEAST, MOST}) {
            Still.refused("many on day " + day, Offices::someWithTape, DeedProofs.BAD, office -> office.many(day));
        }
        DeedProofs office = new DeedProofs();
        Due.rule(office, "o(a,b,c)>s(a,b,c)");
        office.paper(0, 0);
        Due.change(office, 0, 999, "w(a,b,c)>s(a,b,c)");
        Due.is("many on day 0", office.many(0), 2);
        Due.is("many on day 998", office.many(998), 2);
        Due.is("many on day 999", office.many(999), 1);
    }

    /** "How many FACTS FOLLOW": none, and all. */
    private static void manyOfNoneAndOfAll() {
        DeedProofs office = new DeedProofs();
        Due.is("none without papers", office.many(0), 0);
        Due.rule(office, "o(a,b,c)&w(d,d,d)>o(b,c,d)");
        String shapes = "oshmlw";
        for (int i = 0; i < 5; i++) {
            Due.rule(office, shapes.charAt(i) + "(a,b,c)>" + shapes.charAt(i + 1) + "(a,b,c)");
        }
        Due.is("none by rules alone", office.many(0), 0);
        for (int i = 0; i < 5; i++) {
            office.paper(Due.fact("w000") + 31 * i, 0);
        }
        Due.is("those of papers", office.many(0), 5);
        office.paper(Due.fact("o000"), 0);
        Due.is("all", office.many(0), 750);
        office.shown(5, true);
        Due.is("those of papers again", office.many(0), 5);
    }
}
