/** Promises 7 to 11: paper, shown, of, follows, many. */
public final class PapersTest {
    public static void main(String[] args) {
        papers();
        showing();
        heightsAndSizes();
        testsAndLetters();
        largestSize();
        byDays();
        allFacts();
        Due.end();
    }

    private static void papers() {
        DeedProofs office = new DeedProofs();
        Due.is("person 5", office.paper(0, 5), DeedProofs.NONE);
        Due.is("person -1 ahead of bad", office.paper(750, -1), DeedProofs.NONE);
        Due.is("fact 750", office.paper(750, 0), DeedProofs.BAD);
        Due.is("fact -1", office.paper(-1, 0), DeedProofs.BAD);
        for (int i = 0; i < 20; i++) {
            Due.is("paper", office.paper(749 - i, i % 5), i);
        }
        Due.is("a 21st", office.paper(0, 0), DeedProofs.FULL);
        Due.is("bad ahead of full", office.paper(750, 0), DeedProofs.BAD);
        Due.is("none ahead of full", office.paper(0, 5), DeedProofs.NONE);
        Due.is("papers", office.count(3), 20);
        for (int i = 0; i < 20; i++) {
            Due.is("fact of " + i, office.of(i, 0), 749 - i);
            Due.is("person of " + i, office.of(i, 1), i % 5);
            Due.is("false " + i, office.of(i, 2), 0);
        }
        Due.is("of 20", office.of(20, 0), DeedProofs.NONE);
        Due.is("of -1", office.of(-1, 0), DeedProofs.NONE);
        Due.is("of what 3", office.of(0, 3), DeedProofs.NONE);
        Due.is("of what -1", office.of(0, -1), DeedProofs.NONE);
        Due.is("many", office.many(0), 20);
    }

    private static void showing() {
        DeedProofs office = new DeedProofs();
        Due.is("none such", office.shown(0, true), DeedProofs.NONE);
        office.paper(7, 0);
        office.paper(7, 1);
        Due.is("one fact of two papers", office.many(0), 1);
        Due.is("shown true at first", office.shown(0, false), 0);
        Due.is("shown false", office.shown(0, true), 0);
        Due.is("again", office.shown(0, true), 1);
        Due.is("is false", office.of(0, 2), 1);
        Due.is("the other isn't", office.of(1, 2), 0);
        Due.is("follows by the other", office.follows(7, 0, 0), 1);
        office.shown(1, true);
        Due.is("no more", office.follows(7, 0, 0), 0);
        Due.is("no height", office.follows(7, 0, 1), -5);
        Due.is("no size", office.follows(7, 0, 2), -5);
        Due.is("none follows", office.many(0), 0);
        Due.is("true again", office.shown(1, false), 1);
        Due.is("follows again", office.follows(7, 0, 0), 1);
        Due.is("-1", office.shown(-1, true), DeedProofs.NONE);
        Due.is("2", office.shown(2, true), DeedProofs.NONE);
    }

    private static void heightsAndSizes() {
        DeedProofs office = new DeedProofs();
        // The low way to w is the large one: three terms of height 1; the small one goes through a chain.
        Due.rule(office, "o(0,0,0)>s(0,0,0)");
        Due.rule(office, "s(0,0,0)&s(0,0,0)&s(0,0,0)>w(0,0,0)");
        Due.rule(office, "s(0,0,0)>h(0,0,0)");
        Due.rule(office, "h(0,0,0)>m(0,0,0)");
        Due.rule(office, "m(0,0,0)>w(0,0,0)");
        Due.rule(office, "w(0,0,0)>o(0,0,0)");
        Due.rule(office, "w(0,0,0)>l(0,0,0)");
        office.paper(Due.fact("o000"), 0);
        expect(office, "o000", 0, 1);
        expect(office, "s000", 1, 2);
        expect(office, "h000", 2, 3);
        expect(office, "m000", 3, 4);
        expect(office, "w000", 2, 5);
        expect(office, "l000", 3, 6);
        Due.is("many", office.many(0), 6);
        Due.is("what 3", office.follows(0, 0, 3), DeedProofs.NONE);
        Due.is("what -1 ahead of bad", office.follows(750, 1000, -1), DeedProofs.NONE);
        Due.is("fact 750", office.follows(750, 0, 0), DeedProofs.BAD);
        Due.is("fact -1", office.follows(-1, 0, 0), DeedProofs.BAD);
        Due.is("day 1000", office.follows(0, 1000, 0), DeedProofs.BAD);
        Due.is("day -1", office.follows(0, -1, 0), DeedProofs.BAD);
        Due.is("many of 1000", office.many(1000), DeedProofs.BAD);
        Due.is("many of -1", office.many(-1), DeedProofs.BAD);
        Due.is("many of 999", office.many(999), 6);
    }

    private static void expect(DeedProofs office, String fact, int height, int size) {
        Due.is(fact, office.follows(Due.fact(fact), 0, 0), 1);
        Due.is("height of " + fact, office.follows(Due.fact(fact), 0, 1), height);
        Due.is("size of " + fact, office.follows(Due.fact(fact), 0, 2), size);
    }

    private static void testsAndLetters() {
        DeedProofs office = new DeedProofs();
        Due.rule(office, "o(a,b,c)&a<b&c=2>s(b,a,c)");
        Due.rule(office, "o(a,a,b)&a#b>h(b,b,a)");
        Due.rule(office, "s(a,b,c)&h(c,c,d)&d<3>m(d,4,a)");
        office.paper(Due.fact("o132"), 0);
        office.paper(Due.fact("o312"), 0);
        office.paper(Due.fact("o131"), 0);
        office.paper(Due.fact("o112"), 0);
        office.paper(Due.fact("o222"), 0);
        expect(office, "s312", 1, 2);
        expect(office, "h221", 1, 2);
        expect(office, "m143", 2, 5);
        Due.is("is not less", office.follows(Due.fact("s132"), 0, 0), 0);
        Due.is("isn't 2", office.follows(Due.fact("s311"), 0, 0), 0);
        Due.is("is it", office.follows(Due.fact("h222"), 0, 0), 0);
        Due.is("many", office.many(0), 8);
        DeedProofs all = new DeedProofs();
        Due.rule(all, "o(0,0,0)&s(a,b,c)>o(a,b,c)");
        Due.rule(all, "o(a,b,c)>s(c,a,b)");
        Due.rule(all, "o(a,b,c)&s(d,a,a)&w(d,0,0)>l(d,c,c)");
        all.paper(Due.fact("o000"), 0);
        all.paper(Due.fact("o123"), 0);
        all.paper(Due.fact("w400"), 0);
        all.paper(Due.fact("s411"), 0);
        expect(all, "o312", 2, 4);
        expect(all, "l433", 1, 4);
        expect(all, "o411", 1, 3);
        Due.is("turning round", all.many(0), 18);
    }

    private static void largestSize() {
        DeedProofs office = new DeedProofs();
        Due.rule(office, "o(a,b,c)&o(a,b,c)&o(a,b,c)&c=0>s(a,b,1)");
        Due.rule(office, "s(a,b,1)>o(a,b,1)");
        Due.rule(office, "o(a,b,c)&o(a,b,c)&o(a,b,c)&c=1>s(a,b,2)");
        Due.rule(office, "s(a,b,2)>o(a,b,2)");
        Due.rule(office, "o(a,b,2)&a=0>o(1,b,0)");
        Due.rule(office, "o(a,b,2)&a=1>o(2,b,0)");
        Due.rule(office, "o(a,b,2)&a=2>o(3,b,0)");
        Due.rule(office, "o(a,b,2)&a=3>o(0,1,0)");
        office.paper(Due.fact("o000"), 0);
        int size = 1;
        for (int block = 0; block < 4; block++) {
            for (int part = 0; part < 2; part++) {
                size = 3 * size + 2;
                Due.is("size", office.follows(25 * block + part + 1, 0, 2), Math.min(size, 100000));
            }
            size++;
        }
        Due.is("size at first beyond", office.follows(Due.fact("o010"), 0, 2), Math.min(size, 100000));
        Due.is("size beyond", office.follows(Due.fact("o312"), 0, 2), 100000);
        Due.is("height beyond", office.follows(Due.fact("o312"), 0, 1), 39);
    }

    private static void byDays() {
        DeedProofs office = new DeedProofs();
        Due.rule(office, "o(a,b,c)>s(a,b,c)");
        office.paper(Due.fact("o111"), 0);
        Due.change(office, 0, 7, "o(a,b,c)>h(a,b,c)");
        Due.is("s ahead", office.follows(Due.fact("s111"), 6, 0), 1);
        Due.is("h ahead", office.follows(Due.fact("h111"), 6, 0), 0);
        Due.is("s then", office.follows(Due.fact("s111"), 7, 0), 0);
        Due.is("h then", office.follows(Due.fact("h111"), 7, 0), 1);
        Due.is("h at the end", office.follows(Due.fact("h111"), 999, 1), 1);
    }

    private static void allFacts() {
        DeedProofs office = new DeedProofs();
        Due.rule(office, "o(a,b,c)&w(d,d,d)>o(b,c,d)");
        String shapes = "oshmlw";
        for (int i = 0; i < 5; i++) {
            Due.rule(office, shapes.charAt(i) + "(a,b,c)>" + shapes.charAt(i + 1) + "(a,b,c)");
            office.paper(Due.fact("w000") + 31 * i, 0);
        }
        office.paper(Due.fact("o000"), 0);
        Due.is("all follow", office.many(0), 750);
        Due.is("height of the last", office.follows(Due.fact("w234"), 0, 1), 8);
        Due.is("size of the last", office.follows(Due.fact("w234"), 0, 2), 12);
        Due.is("all follow once more", office.many(0), 750);
        Due.tactic(office, "(0;1;2;3;4;5)*");
        Due.is("all are found", office.run(0, 200, 0), 750);
        Due.is("in four rounds", office.run(0, 200, 1), 24);
    }
}
