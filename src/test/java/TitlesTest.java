/** Promises 22 to 29: title, stand, fall, carry, clash, every, enough, could. */
public final class TitlesTest {
    private static final int LINE = 0, SHARED = 2, OPEN = 4;

    public static void main(String[] args) {
        titles();
        standing();
        standingByItsDay();
        falling();
        carrying();
        clashing();
        everyProof();
        enough();
        could();
        Due.end();
    }

    /** Rule 0: s to o; rule 1: h to o; papers 0: s123, 1: h213, 2: s301, 3: s401. */
    private static DeedProofs office() {
        DeedProofs office = new DeedProofs();
        Due.rule(office, "s(a,b,c)>o(b,a,c)");
        Due.rule(office, "h(a,b,c)>o(a,b,c)");
        office.paper(Due.fact("s123"), 0);
        office.paper(Due.fact("h213"), 1);
        office.paper(Due.fact("s301"), 2);
        office.paper(Due.fact("s301"), 3);
        return office;
    }

    /** A LINE of one step, and its number. */
    private static int line(DeedProofs office, int rule, String letters, int from) {
        int proof = office.proof(LINE);
        office.step(proof, rule, Due.letters(letters), 1, from, 0, 0);
        return proof;
    }

    private static void titles() {
        DeedProofs office = new DeedProofs();
        Due.rule(office, "s(a,b,c)>o(b,a,c)");
        Due.rule(office, "o(a,b,c)>l(a,b,c)");
        Due.is("no proof", office.title(0), DeedProofs.NONE);
        Due.is("proof -1", office.title(-1), DeedProofs.NONE);
        office.paper(Due.fact("s123"), 0);
        office.proof(LINE);
        Due.is("no steps", office.title(0), DeedProofs.STATE);
        office.step(0, 0, Due.letters("1230"), 1, 0, 0, 0);
        Due.is("title", office.title(0), 0);
        Due.is("again", office.title(0), DeedProofs.STATE);
        Due.is("of the same fact", office.title(line(office, 0, "1234", 0)), DeedProofs.STATE);
        Due.is("not taken", office.title(line(office, 0, "3210", 0)), DeedProofs.STATE);
        Due.is("titles", office.count(5), 1);
        office.paper(Due.fact("s001"), 0);
        int open = office.proof(OPEN);
        office.step(open, 1, Due.letters("4440"), 1, 300, 0, 0);
        Due.is("an open one", office.title(open), 1);
        fullTitles();
    }

    private static void fullTitles() {
        DeedProofs office = new DeedProofs();
        Due.rule(office, "s(a,b,c)>o(b,a,c)");
        for (int i = 0; i < 11; i++) {
            office.paper(Due.fact("s000") + i, 0);
            line(office, 0, "0" + i / 5 + i % 5 + "0", i);
        }
        for (int i = 0; i < 10; i++) {
            Due.is("title", office.title(i), i);
        }
        Due.is("an 11th", office.title(10), DeedProofs.FULL);
        Due.is("state ahead of full", office.title(9), DeedProofs.STATE);
        Due.is("none ahead of full", office.title(11), DeedProofs.NONE);
        office.shown(10, true);
        Due.is("not taken ahead of full", office.title(10), DeedProofs.STATE);
        Due.is("titles", office.count(5), 10);
    }

    private static void standing() {
        DeedProofs office = office();
        Due.is("no title", office.stand(0, 0), DeedProofs.NONE);
        office.day(5);
        office.title(line(office, 0, "1230", 0));
        Due.is("title -1", office.stand(-1, 5), DeedProofs.NONE);
        Due.is("ahead of it", office.stand(0, 4), DeedProofs.BAD);
        Due.is("day 1000", office.stand(0, 1000), DeedProofs.BAD);
        Due.is("stands", office.stand(0, 5), 1);
        Due.is("stands at the end", office.stand(0, 999), 1);
        office.shown(0, true);
        Due.is("by another way", office.stand(0, 5), 2);
        Due.change(office, 1, 9, "h(a,b,c)>w(a,b,c)");
        Due.is("still by another way", office.stand(0, 8), 2);
        Due.is("not from then on", office.stand(0, 9), 0);
        office.shown(0, false);
        Due.is("by its own again", office.stand(0, 9), 1);
        office.shown(0, true);
        office.shown(1, true);
        Due.is("falls", office.stand(0, 5), 0);
    }

    private static void standingByItsDay() {
        DeedProofs office = office();
        office.day(5);
        int first = line(office, 0, "1230", 0);
        office.title(first);
        Due.change(office, 0, 6, "s(a,b,c)>w(a,b,c)");
        office.day(1);
        Due.is("taken today", office.check(first, 6), 1);
        Due.is("says another today", office.says(first, -1, 6), Due.fact("w123"));
        Due.is("stands by the rules of its day", office.stand(0, 6), 1);
        Due.change(office, 0, 7, "s(a,b,c)&s(a,b,c)>w(a,b,c)");
        office.day(1);
        Due.is("lacks now", office.lacks(first, 0, 7), 1);
        Due.is("stands all the same", office.stand(0, 7), 1);
        DeedProofs shared = office();
        line(shared, 0, "1230", 0);
        Due.rule(shared, "o(a,b,c)>l(a,b,c)");
        int lemma = shared.proof(SHARED);
        shared.step(lemma, 2, Due.letters("2130"), 1, 200, 0, 0);
        Due.is("by a lemma", shared.title(lemma), 0);
        shared.shown(0, true);
        Due.is("its lemma falls, another way", shared.stand(0, 0), 2);
        shared.shown(1, true);
        Due.is("all fall", shared.stand(0, 0), 0);
    }

    private static void falling() {
        DeedProofs office = office();
        Due.is("no titles", office.fall(0), 0);
        Due.is("no paper", office.fall(4), DeedProofs.NONE);
        Due.is("paper -1", office.fall(-1), DeedProofs.NONE);
        office.title(line(office, 0, "1230", 0));
        office.title(line(office, 0, "3010", 2));
        Due.is("another way is there", office.fall(0), 0);
        Due.is("not by that", office.fall(1), 0);
        Due.is("another paper of the fact", office.fall(2), 0);
        office.shown(3, true);
        Due.is("no other paper", office.fall(2), 2);
        Due.is("is false", office.fall(3), DeedProofs.STATE);
        office.shown(0, true);
        Due.is("stands by another way, falls with it", office.fall(1), 1);
        office.shown(1, true);
        Due.is("what fell before falls no more", office.fall(2), 2);
        Due.is("false", office.fall(0), DeedProofs.STATE);
        office.shown(0, false);
        Due.is("only one way", office.fall(0), 1);
        int open = office.proof(OPEN);
        Due.rule(office, "w(a,b,c)&s(0,0,0)>l(a,b,c)");
        office.paper(Due.fact("s000"), 0);
        office.step(open, 2, Due.letters("1110"), 2, 300, 4, 0);
        Due.is("open title", office.title(open), 2);
        Due.is("open falls", office.fall(4), 4);
    }

    private static void carrying() {
        DeedProofs office = office();
        Due.is("no title", office.carry(0, 0), DeedProofs.NONE);
        office.day(3);
        int proof = line(office, 0, "1230", 0);
        office.step(proof, 1, Due.letters("2130"), 1, 1, 0, 0);
        office.title(proof);
        Due.is("title -1", office.carry(-1, 0), DeedProofs.NONE);
        Due.is("day 1000", office.carry(0, 1000), DeedProofs.BAD);
        Due.is("day -1", office.carry(0, -1), DeedProofs.BAD);
        Due.is("all good", office.carry(0, 3), -5);
        Due.is("ahead of it too", office.carry(0, 0), -5);
        Due.change(office, 1, 6, "h(a,b,c)&a=0>o(a,b,c)");
        Due.change(office, 0, 8, "s(a,b,c)&a=0>o(b,a,c)");
        Due.is("good till then", office.carry(0, 5), -5);
        Due.is("the second", office.carry(0, 6), 1);
        Due.is("the first", office.carry(0, 8), 0);
        office.shown(0, true);
        Due.is("papers as they are", office.carry(0, 3), 0);
    }

    private static void clashing() {
        DeedProofs office = new DeedProofs();
        Due.rule(office, "s(a,b,c)>o(a,b,c)");
        Due.rule(office, "h(a,b,c)&m(d,d,d)>o(a,b,c)");
        Due.rule(office, "s(a,b,c)>l(a,b,c)");
        office.paper(Due.fact("s123"), 0);
        office.paper(Due.fact("h224"), 0);
        office.paper(Due.fact("m000"), 0);
        office.paper(Due.fact("s134"), 0);
        office.paper(Due.fact("h122"), 0);
        Due.is("no titles", office.clash(0, 0), DeedProofs.NONE);
        office.title(line(office, 0, "1230", 0));
        int second = office.proof(LINE);
        office.step(second, 1, Due.letters("2240"), 2, 1, 2, 0);
        office.title(second);
        office.title(line(office, 0, "1340", 3));
        int fourth = office.proof(LINE);
        office.step(fourth, 1, Due.letters("1220"), 2, 4, 2, 0);
        office.title(fourth);
        office.title(line(office, 2, "1230", 0));
        Due.is("titles", office.count(5), 5);
        Due.is("they clash", office.clash(0, 1), 7);
        Due.is("either way", office.clash(1, 0), 7);
        Due.is("parts of one alone", office.clash(1, 3), 18);
        Due.is("another y", office.clash(1, 2), -5);
        Due.is("one x", office.clash(0, 3), -5);
        Due.is("not owned", office.clash(4, 1), -5);
        Due.is("not owned, the other way", office.clash(1, 4), -5);
        DeedProofs edge = new DeedProofs();
        Due.rule(edge, "h(a,b,c)>s(a,b,c)");
        Due.rule(edge, "h(a,b,c)>o(a,b,c)");
        edge.paper(Due.fact("h000"), 0);
        edge.paper(Due.fact("h404"), 0);
        edge.title(line(edge, 0, "0000", 0));
        edge.title(line(edge, 1, "4040", 1));
        edge.title(line(edge, 1, "0000", 0));
        Due.is("s is not o", edge.clash(0, 1), -5);
        Due.is("s is not o, the other way", edge.clash(1, 0), -5);
        Due.is("the least and the greatest", edge.clash(1, 2), 3);
        Due.is("one", office.clash(1, 1), DeedProofs.BAD);
        Due.is("none such", office.clash(1, 5), DeedProofs.NONE);
        Due.is("none such ahead", office.clash(-1, 1), DeedProofs.NONE);
        Due.is("none twice", office.clash(5, 5), DeedProofs.NONE);
    }

    private static void everyProof() {
        DeedProofs office = office();
        Due.rule(office, "o(2,1,3)&s(3,0,1)>w(0,0,0)");
        Due.is("fact 750", office.every(750), DeedProofs.BAD);
        Due.is("fact -1", office.every(-1), DeedProofs.BAD);
        Due.is("doesn't follow", office.every(Due.fact("w111")), -5);
        Due.is("two ways", office.every(Due.fact("w000")), 0);
        office.shown(2, true);
        Due.is("one of the papers", office.every(Due.fact("w000")), 8);
        office.shown(1, true);
        Due.is("both", office.every(Due.fact("w000")), 9);
        Due.is("a paper's own", office.every(Due.fact("s123")), 1);
        Due.change(office, 0, 3, "s(a,b,c)>l(a,b,c)");
        Due.is("today", office.every(Due.fact("w000")), 9);
        office.day(3);
        Due.is("no more", office.every(Due.fact("w000")), -5);
    }

    private static void enough() {
        DeedProofs office = office();
        Due.rule(office, "o(2,1,3)&s(3,0,1)>w(0,0,0)");
        for (int i = 0; i < 4; i++) {
            office.paper(i, 4);
        }
        int w = Due.fact("w000");
        Due.is("fact 750", office.enough(750, 0), DeedProofs.BAD);
        Due.is("fact -1", office.enough(-1, 0), DeedProofs.BAD);
        Due.is("none such", office.enough(w, 256), DeedProofs.BAD);
        Due.is("none such at the top", office.enough(w, Integer.MIN_VALUE), DeedProofs.BAD);
        Due.is("seven", office.enough(w, 127), DeedProofs.BAD);
        Due.is("six", office.enough(w, 63), 5);
        Due.is("all but the first", office.enough(w, 62), 6);
        Due.is("the first and the fourth", office.enough(w, 9), 9);
        Due.is("not enough", office.enough(w, 3), -5);
        Due.is("of none", office.enough(w, 0), -5);
        Due.is("one is enough", office.enough(Due.fact("o213"), 63), 1);
        Due.is("the other one", office.enough(Due.fact("o213"), 62), 2);
        Due.is("a paper's own", office.enough(1, 63), 32);
        office.shown(0, true);
        Due.is("a false one", office.enough(w, 9), DeedProofs.BAD);
        Due.is("without it", office.enough(w, 62), 6);
        fewerBeforeLesser();
    }

    private static void fewerBeforeLesser() {
        DeedProofs office = new DeedProofs();
        Due.rule(office, "o(0,0,0)&o(0,0,1)&o(0,0,2)>w(0,0,0)");
        Due.rule(office, "o(0,0,3)&o(0,0,4)>w(0,0,0)");
        for (int i = 0; i < 5; i++) {
            office.paper(i, i < 3 ? 1 : 2);
        }
        Due.is("fewer, though greater as bits", office.enough(Due.fact("w000"), 31), 24);
        Due.is("more, if those are not told", office.enough(Due.fact("w000"), 15), 7);
        Due.is("could, fewer", office.could(0, Due.fact("w000")), 24);
        Due.is("could with own", office.could(1, Due.fact("w000")), 0);
        office.shown(4, true);
        Due.is("could by those that are left", office.could(0, Due.fact("w000")), 7);
        Due.is("could by the others", office.could(2, Due.fact("w000")), 7);
    }

    private static void could() {
        DeedProofs office = office();
        Due.rule(office, "o(2,1,3)&s(3,0,1)>w(0,0,0)");
        int w = Due.fact("w000");
        Due.is("person 5", office.could(5, 750), DeedProofs.NONE);
        Due.is("person -1", office.could(-1, 0), DeedProofs.NONE);
        Due.is("fact 750", office.could(0, 750), DeedProofs.BAD);
        Due.is("fact -1", office.could(0, -1), DeedProofs.BAD);
        Due.is("by person 0", office.could(0, w), 4);
        Due.is("by person 1", office.could(1, w), 4);
        Due.is("by person 2", office.could(2, w), 1);
        Due.is("by one without papers", office.could(4, w), 5);
        Due.is("none could", office.could(0, Due.fact("w001")), -5);
        office.shown(2, true);
        Due.is("another's", office.could(0, w), 8);
        office.shown(0, true);
        Due.is("own are false", office.could(0, w), 10);
        firstSixOnly();
    }

    private static void firstSixOnly() {
        DeedProofs office = new DeedProofs();
        for (int i = 0; i < 8; i++) {
            office.paper(i, i == 2 ? 0 : 1);
        }
        Due.is("the sixth of others", office.could(0, 6), 64);
        Due.is("the seventh of others", office.could(0, 7), -5);
        Due.is("own", office.could(0, 2), 0);
        office.shown(1, true);
        Due.is("false ones do not count", office.could(0, 7), 128);
    }
}
