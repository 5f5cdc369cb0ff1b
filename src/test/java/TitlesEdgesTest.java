import java.util.function.Supplier;

/** Terms 4 and promises 22 to 29: a test of its own for each sentence that names a boundary, which stands above it. */
public final class TitlesEdgesTest {
    private static final int LEAST = Integer.MIN_VALUE, MOST = Integer.MAX_VALUE;
    private static final int[] NO_TITLES = {-1, 2, 10, LEAST, MOST}, NO_DAYS = {-1, 1000, LEAST, MOST},
            NO_FACTS = {-1, 750, LEAST, MOST};

    public static void main(String[] args) {
        titleOfNoProof();
        titleOfOneNotTaken();
        titleOfAFactThatHasOne();
        titleFull();
        standOfNone();
        standAheadOfItsDay();
        standByItsDayAndLater();
        fallOfNone();
        fallOfAFalsePaper();
        fallOfNoneOrAll();
        carryRefused();
        carriedFromEndToEnd();
        clashRefused();
        clashOfOne();
        clashByArguments();
        clashByShapes();
        clashOfTheSamePapers();
        everyRefused();
        everyFromEndToEnd();
        enoughOfNoFact();
        enoughOfWrongBits();
        enoughOfNoneAndOfSix();
        enoughTheLeastOfSeveral();
        couldRefused();
        couldByItsOwn();
        couldByTheFirstSix();
        couldNot();
        Due.end();
    }

    /** title: "NONE: proof" */
    private static void titleOfNoProof() {
        for (int none : new int[] {-1, 9, 12, LEAST, MOST}) {
            Still.refused("title of " + none, Offices::someWithTape, DeedProofs.NONE, office -> office.title(none));
        }
    }

    /** title: "STATE: it isn't TAKEN TODAY" */
    private static void titleOfOneNotTaken() {
        for (int proof : new int[] {Offices.WITH_HOLES, Offices.WITHOUT_STEPS, Offices.LACKING}) {
            Still.refused("title of " + proof, Offices::someWithTape, DeedProofs.STATE, office -> office.title(proof));
        }
        Supplier<DeedProofs> taken = () -> {
            DeedProofs office = new DeedProofs();
            Due.rule(office, "s(a,b,c)>o(b,a,c)");
            Due.change(office, 0, 2, "s(a,b,c)&a=0>o(b,a,c)");
            Due.change(office, 0, 3, "s(a,b,c)>o(b,a,c)");
            office.paper(Due.fact("s123"), 0);
            office.proof(Offices.LINE);
            Offices.step(office, 0, 0, "1230", 0);
            office.day(1);
            return office;
        };
        Due.is("taken the day ahead", taken.get().title(0), 0);
        Still.refused("not taken then", Offices.then(taken, office -> office.day(1)), DeedProofs.STATE,
                office -> office.title(0));
        Due.is("taken the day behind", Offices.then(taken, office -> office.day(2)).get().title(0), 0);
        Still.refused("by a false paper", Offices.then(taken, office -> office.shown(0, true)), DeedProofs.STATE,
                office -> office.title(0));
    }

    /** title: "STATE: .. there is a TITLE of that FACT"; "no two of one FACT" */
    private static void titleOfAFactThatHasOne() {
        for (int proof : new int[] {Offices.TITLED, Offices.OF_A_TITLES_FACT, Offices.USED_AS_AN_END, 8}) {
            Still.refused("title of " + proof, Offices::someWithTape, DeedProofs.STATE, office -> office.title(proof));
        }
        Supplier<DeedProofs> fallen = Offices.then(Offices::some, office -> {
            office.paper(Due.fact("s123"), 0);
            office.proof(Offices.LINE);
            Offices.step(office, 9, 0, "1230", 4);
            office.shown(0, true);
        });
        Still.refused("of a title that stands by another way", fallen, DeedProofs.STATE, office -> office.title(9));
        Due.is("of another fact", Offices.some().title(4), 2);
    }

    /** "TITLES are numbered from 0 on, 10 at most"; title: "FULL" */
    private static void titleFull() {
        DeedProofs office = new DeedProofs();
        Due.rule(office, "s(a,b,c)>o(b,a,c)");
        for (int i = 0; i < 11; i++) {
            office.paper(Due.fact("s000") + i, 0);
            office.proof(Offices.LINE);
            Offices.step(office, i, 0, "0" + i / 5 + i % 5 + "0", i);
            Due.is("title " + i, office.title(i), i < 10 ? i : DeedProofs.FULL);
        }
        Still.refused("an 11th", Offices::full, DeedProofs.FULL, full -> full.title(10));
        Still.refused("an 11th beside all else", TitlesEdgesTest::tenTitles, DeedProofs.FULL, full -> full.title(10));
    }

    /** 10 TITLES and a PROOF more, of an office with room for all else. */
    private static DeedProofs tenTitles() {
        DeedProofs office = new DeedProofs();
        Due.rule(office, "s(a,b,c)>o(b,a,c)");
        Due.change(office, 0, 9, "s(a,b,c)>o(b,a,c)");
        Due.tactic(office, "0");
        office.run(0, 1, 0);
        office.day(1);
        office.image();
        for (int i = 0; i < 11; i++) {
            office.paper(Due.fact("s000") + i, 0);
            office.proof(i == 3 ? Offices.OPEN : Offices.LINE);
            Offices.step(office, i, 0, "0" + i / 5 + i % 5 + "0", i);
        }
        for (int i = 0; i < 10; i++) {
            office.title(i);
        }
        Due.feed(office, "s(a,b,c)>l(b,a,c)");
        return office;
    }

    /** stand: "NONE" */
    private static void standOfNone() {
        for (int none : NO_TITLES) {
            Still.refused("stand of " + none, Offices::someWithTape, DeedProofs.NONE, office -> office.stand(none, 5));
        }
        Still.refused("an 11th", Offices::full, DeedProofs.NONE, office -> office.stand(10, 999));
        Due.is("the 10th", Offices.full().stand(9, 999), 1);
    }

    /** stand: "on a DAY (that of the TITLE, or later)", "BAD: day" */
    private static void standAheadOfItsDay() {
        for (int day : new int[] {3, 0, -1, 1000, LEAST, MOST}) {
            Still.refused("stand on day " + day, Offices::someWithTape, DeedProofs.BAD, office -> office.stand(0, day));
        }
        Due.is("on its day", Offices.some().stand(0, 4), 1);
        Due.is("on day 999", Offices.some().stand(0, 999), 1);
        Due.is("on day 0", Offices.full().stand(0, 0), 1);
    }

    /** "by the RULES of the TITLE's DAY"; "(by the RULES of that later DAY); else it FALLS" */
    private static void standByItsDayAndLater() {
        DeedProofs office = new DeedProofs();
        Due.rule(office, "s(a,b,c)>o(b,a,c)");
        Due.rule(office, "h(a,b,c)>w(a,b,c)");
        Due.change(office, 1, 6, "h(a,b,c)>o(a,b,c)");
        Due.change(office, 1, 8, "h(a,b,c)>w(a,b,c)");
        office.paper(Due.fact("s123"), 0);
        office.paper(Due.fact("h213"), 0);
        office.day(5);
        office.proof(Offices.LINE);
        Offices.step(office, 0, 0, "1230", 0);
        office.title(0);
        Due.change(office, 0, 6, "s(a,b,c)&a=0>o(b,a,c)");
        Due.is("by its own proof later", office.stand(0, 6), 1);
        Due.is("by its own proof at the end", office.stand(0, 999), 1);
        office.shown(0, true);
        int[] days = {5, 6, 7, 8, 999};
        int[] due = {0, 2, 2, 0, 0};
        for (int i = 0; i < days.length; i++) {
            Due.is("on day " + days[i], office.stand(0, days[i]), due[i]);
        }
    }

    /** fall: "NONE" */
    private static void fallOfNone() {
        for (int none : new int[] {-1, 4, 19, 20, 32, LEAST, MOST}) {
            Still.refused("fall of " + none, Offices::someWithTape, DeedProofs.NONE, office -> office.fall(none));
        }
        Still.refused("fall of a 21st", Offices::full, DeedProofs.NONE, office -> office.fall(20));
        Due.is("fall of the 20th", Offices.full().fall(19), 0);
    }

    /** fall: "STATE: it is FALSE." */
    private static void fallOfAFalsePaper() {
        Still.refused("fall of a false one", Offices::someWithTape, DeedProofs.STATE, office -> office.fall(2));
        DeedProofs office = Offices.some();
        office.shown(2, false);
        Due.is("true again", office.fall(2), 0);
    }

    /** "TITLES that STAND TODAY (in any way) and would FALL .., as bits": none, each, all. */
    private static void fallOfNoneOrAll() {
        Due.is("without titles", withPaper().fall(0), 0);
        for (int i = 0; i < 10; i++) {
            Due.is("the title of paper " + i, Offices.full().fall(i), 1 << i);
        }
        Due.is("the paper of no title", Offices.full().fall(10), 0);
        DeedProofs office = new DeedProofs();
        Due.rule(office, "s(0,0,0)&h(a,b,c)>o(a,b,c)");
        office.paper(Due.fact("s000"), 0);
        for (int i = 0; i < 10; i++) {
            office.paper(Due.fact("h000") + i, 0);
            office.proof(Offices.LINE);
            Offices.step(office, i, 0, "0" + i / 5 + i % 5 + "0", 0, i + 1);
            office.title(i);
        }
        Due.is("all", office.fall(0), 1023);
        Due.is("the last alone", office.fall(10), 512);
        office.shown(10, true);
        Due.is("one that fell before isn't told", office.fall(0), 511);
        Due.is("nothing fell by asking", office.stand(0, 0), 1);
    }

    private static DeedProofs withPaper() {
        DeedProofs office = new DeedProofs();
        office.paper(0, 0);
        return office;
    }

    /** carry: "NONE; BAD: day." */
    private static void carryRefused() {
        for (int none : NO_TITLES) {
            Still.refused("carry of " + none, Offices::someWithTape, DeedProofs.NONE, office -> office.carry(none, 5));
        }
        for (int day : NO_DAYS) {
            Still.refused("carry to day " + day, Offices::someWithTape, DeedProofs.BAD, office -> office.carry(0, day));
        }
        Due.is("to day 0", Offices.some().carry(0, 0), -5);
        Due.is("to day 999", Offices.some().carry(0, 999), -5);
    }

    /** "CARRIED: the first of its STEPS that isn't good by RULES of a DAY (-5: all are)" */
    private static void carriedFromEndToEnd() {
        DeedProofs office = new DeedProofs();
        Due.rule(office, "o(a,b,c)>o(a,b,c)");
        for (int i = 0; i < 12; i++) {
            office.paper(Due.fact("o123"), 0);
        }
        office.proof(Offices.LINE);
        for (int s = 0; s < 12; s++) {
            Offices.step(office, 0, 0, "1230", s);
        }
        office.title(0);
        Due.is("all are", office.carry(0, 0), -5);
        for (int s = 11; s >= 0; s--) {
            office.shown(s, true);
            Due.is("the first that isn't", office.carry(0, 0), s);
        }
    }

    /** clash: "NONE" */
    private static void clashRefused() {
        for (int none : NO_TITLES) {
            Still.refused("clash of " + none, Offices::someWithTape, DeedProofs.NONE, office -> office.clash(none, 0));
            Still.refused("clash with " + none, Offices::someWithTape, DeedProofs.NONE, office -> office.clash(0, none));
        }
    }

    /** clash: "BAD: one." */
    private static void clashOfOne() {
        for (int title = 0; title < 2; title++) {
            int one = title;
            Still.refused("clash of " + one + " with itself", Offices::someWithTape, DeedProofs.BAD,
                    office -> office.clash(one, one));
        }
    }

    /** Two TITLES, each by a PAPER of its own. */
    private static DeedProofs twoTitles(String first, String second) {
        DeedProofs office = new DeedProofs();
        String[] facts = {first, second};
        for (int i = 0; i < 2; i++) {
            String from = (facts[i].charAt(0) == 'w' ? "h" : "w") + facts[i].substring(1);
            String end = "(" + facts[i].charAt(1) + "," + facts[i].charAt(2) + "," + facts[i].charAt(3) + ")";
            Due.rule(office, from.charAt(0) + end + ">" + facts[i].charAt(0) + end);
            office.paper(Due.fact(from), 0);
            office.proof(Offices.LINE);
            Offices.step(office, i, i, "0000", i);
            Due.is("title of " + facts[i], office.title(i), i);
        }
        return office;
    }

    /** "both are of SHAPE o, of one y (second ARGUMENT), unlike x" */
    private static void clashByArguments() {
        for (int one = 0; one < 125; one++) {
            for (int other = one + 1; other < 125; other++) {
                DeedProofs office = twoTitles(owned(one), owned(other));
                boolean due = one / 25 != other / 25 && one / 5 % 5 == other / 5 % 5;
                Due.is(owned(one) + " and " + owned(other), office.clash(0, 1), due ? 3 : -5);
                Due.is(owned(other) + " and " + owned(one), office.clash(1, 0), due ? 3 : -5);
            }
        }
    }

    private static String owned(int fact) {
        return "o" + fact / 25 + fact / 5 % 5 + fact % 5;
    }

    /** The same: "-5: they do not CLASH", if one is of another SHAPE. */
    private static void clashByShapes() {
        for (char shape : "shmlw".toCharArray()) {
            for (String arguments : new String[] {"000", "444", "121"}) {
                DeedProofs office = twoTitles(shape + arguments, "o" + (4 - (arguments.charAt(0) - '0')) + arguments.substring(1));
                Due.is(shape + arguments, office.clash(0, 1), -5);
                Due.is(shape + arguments + " the other way", office.clash(1, 0), -5);
            }
        }
        Due.is("both of another shape", twoTitles("s010", "s110").clash(0, 1), -5);
    }

    /** "PAPERS on which one of them LEANS and not the other": there may be none. */
    private static void clashOfTheSamePapers() {
        DeedProofs office = new DeedProofs();
        Due.rule(office, "s(a,b,c)>o(a,b,c)");
        Due.rule(office, "s(a,b,c)>o(c,b,a)");
        office.paper(Due.fact("s123"), 0);
        for (int i = 0; i < 2; i++) {
            office.proof(Offices.LINE);
            Offices.step(office, i, i, "1230", 0);
            office.title(i);
        }
        Due.is("they clash by one paper", office.clash(0, 1), 0);
    }

    /** every: "BAD." */
    private static void everyRefused() {
        for (int fact : NO_FACTS) {
            Still.refused("every " + fact, Offices::someWithTape, DeedProofs.BAD, office -> office.every(fact));
        }
    }

    /** "if without it the FACT doesn't FOLLOW"; "-5: it doesn't FOLLOW" */
    private static void everyFromEndToEnd() {
        DeedProofs office = new DeedProofs();
        Due.is("without papers", office.every(0), -5);
        for (int i = 0; i < 20; i++) {
            office.paper(i == 0 ? 0 : i == 19 ? 749 : 100, 0);
        }
        Due.is("the least by the first paper", office.every(0), 1);
        Due.is("the greatest by the last", office.every(749), 1 << 19);
        Due.is("by many papers", office.every(100), 0);
        Due.is("doesn't follow", office.every(748), -5);
        for (int i = 1; i < 18; i++) {
            office.shown(i, true);
        }
        Due.is("by the one that is left", office.every(100), 1 << 18);
        office.shown(18, true);
        Due.is("by none that is left", office.every(100), -5);
        Due.rule(office, "o(0,0,0)&w(4,4,4)>l(0,0,0)");
        Due.is("by both", office.every(Due.fact("l000")), 1 << 19 | 1);
    }

    /** enough: "BAD: fact" */
    private static void enoughOfNoFact() {
        for (int fact : NO_FACTS) {
            Still.refused("enough for " + fact, Offices::someWithTape, DeedProofs.BAD, office -> office.enough(fact, 1));
            Still.refused("enough of none for " + fact, Offices::someWithTape, DeedProofs.BAD,
                    office -> office.enough(fact, 0));
        }
    }

    /** enough: "BAD: .. bits (of none such, of FALSE ones, more than 6)" */
    private static void enoughOfWrongBits() {
        for (int bits : new int[] {16, 17, 1 << 19, 1 << 20, LEAST, -1, MOST, 4, 5, 7}) {
            Still.refused("enough of bits " + bits, Offices::someWithTape, DeedProofs.BAD,
                    office -> office.enough(Due.fact("o213"), bits));
        }
        for (int bits : new int[] {1, 2, 1 << 19, -1}) {
            Still.refused("enough of bits " + bits + " without papers", DeedProofs::new, DeedProofs.BAD,
                    office -> office.enough(0, bits));
        }
        for (int bits : new int[] {127, 127 << 13, (1 << 20) - 1, 1 << 20, 63 | 1 << 19}) {
            Still.refused("enough of bits " + bits, Offices::full, DeedProofs.BAD, office -> office.enough(0, bits));
        }
    }

    /** "of told PAPERS (6 at most) the fewest .. it FOLLOWS"; "-5: none" */
    private static void enoughOfNoneAndOfSix() {
        DeedProofs office = Offices.full();
        Due.is("of none", office.enough(0, 0), -5);
        Due.is("of the first six", office.enough(0, 63), 1);
        Due.is("of the last six", office.enough(Due.fact("s000") + 19, 63 << 14), 1 << 19);
        Due.is("of the last alone", office.enough(Due.fact("s000") + 19, 1 << 19), 1 << 19);
        Due.is("not of those", office.enough(0, 63 << 1), -5);
        Due.is("the least fact", office.enough(0, 1), 1);
        Due.is("the greatest fact", office.enough(749, 63), -5);
        DeedProofs six = new DeedProofs();
        Due.rule(six, "o(0,0,0)&o(0,0,1)&o(0,0,2)>s(0,0,0)");
        Due.rule(six, "o(0,0,3)&o(0,0,4)&o(0,1,0)>s(0,0,1)");
        Due.rule(six, "s(0,0,0)&s(0,0,1)>w(0,0,0)");
        for (int i = 0; i < 6; i++) {
            six.paper(i, i % 5);
        }
        Due.is("all six", six.enough(Due.fact("w000"), 63), 63);
        Due.is("five are not enough", six.enough(Due.fact("w000"), 62), -5);
        Due.is("could by all six but its own", six.could(0, Due.fact("w000")), 30);
    }

    /** "the fewest by which alone (others being FALSE) it FOLLOWS; of several the least as bits" */
    private static void enoughTheLeastOfSeveral() {
        DeedProofs office = new DeedProofs();
        Due.rule(office, "o(0,0,0)&o(0,0,3)>w(0,0,0)");
        Due.rule(office, "o(0,0,1)&o(0,0,2)>w(0,0,0)");
        Due.rule(office, "o(0,0,4)>w(0,0,0)");
        for (int i = 0; i < 5; i++) {
            office.paper(i, 1);
        }
        Due.is("fewer, though greater", office.enough(Due.fact("w000"), 31), 16);
        Due.is("the least of two", office.enough(Due.fact("w000"), 15), 6);
        Due.is("the other of two", office.enough(Due.fact("w000"), 13), 9);
        office.shown(4, true);
        Due.is("could: the least of two", office.could(0, Due.fact("w000")), 6);
        Due.is("others count as false", office.enough(Due.fact("w000"), 7), 6);
        Due.is("though they are true", office.enough(Due.fact("w000"), 5), -5);
    }

    /** could: "NONE: person; BAD: fact." */
    private static void couldRefused() {
        for (int person : new int[] {-1, 5, LEAST, MOST}) {
            Still.refused("could of " + person, Offices::someWithTape, DeedProofs.NONE, office -> office.could(person, 0));
        }
        for (int fact : NO_FACTS) {
            for (int person = 0; person < 5; person++) {
                int asked = person;
                Still.refused("could for " + fact, Offices::someWithTape, DeedProofs.BAD,
                        office -> office.could(asked, fact));
            }
        }
    }

    /** "the set (0: by its own)"; "by those of a PERSON (not FALSE) alone" */
    private static void couldByItsOwn() {
        for (int person = 0; person < 5; person++) {
            DeedProofs office = new DeedProofs();
            office.paper(0, person);
            office.paper(749, person);
            Due.is("the least by its own", office.could(person, 0), 0);
            Due.is("the greatest by its own", office.could(person, 749), 0);
            Due.is("by another's", office.could((person + 1) % 5, 749), 2);
            office.paper(749, (person + 1) % 5);
            office.shown(1, true);
            Due.is("its own being false", office.could(person, 749), 4);
        }
        // Those of its own are not counted among six.
        DeedProofs office = new DeedProofs();
        for (int i = 0; i < 20; i++) {
            office.paper(i, i < 19 ? 0 : 1);
        }
        Due.is("the nineteenth of its own", office.could(0, 18), 0);
        Due.is("with one of another behind", office.could(0, 19), 1 << 19);
    }

    /** "of PAPERS of other PERSONS (not FALSE; the first 6 by numbers)" */
    private static void couldByTheFirstSix() {
        Due.is("the sixth", others(0).could(0, 5), 32);
        Due.is("the seventh", others(0).could(0, 6), -5);
        DeedProofs office = others(0);
        office.shown(0, true);
        Due.is("the seventh, one ahead being false", office.could(0, 6), 64);
        Due.is("the eighth then", office.could(0, 7), -5);
        Due.is("the sixth behind one of its own", others(1).could(0, 6), 64);
        Due.is("the seventh behind it", others(1).could(0, 7), -5);
        DeedProofs last = new DeedProofs();
        for (int i = 0; i < 20; i++) {
            last.paper(i, i < 14 ? 0 : 1 + i % 4);
        }
        Due.is("the last of all", last.could(0, 19), 1 << 19);
    }

    /** PAPERS of PERSON 1, the first ones of PERSON 0. */
    private static DeedProofs others(int own) {
        DeedProofs office = new DeedProofs();
        for (int i = 0; i < 10; i++) {
            office.paper(i, i < own ? 0 : 1);
        }
        return office;
    }

    /** "-5: none" */
    private static void couldNot() {
        DeedProofs office = new DeedProofs();
        Due.is("without papers", office.could(0, 0), -5);
        office.paper(1, 0);
        office.paper(2, 1);
        Due.is("by no paper", office.could(0, 0), -5);
        office.shown(1, true);
        Due.is("by a false one of another", office.could(0, 2), -5);
    }
}
