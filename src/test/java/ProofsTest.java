/** Promises 12 to 21: proof, step, lacks, says, check, leans, hole, fill, act, as. */
public final class ProofsTest {
    private static final int LINE = 0, PIECE = 1, SHARED = 2, CUT = 3, OPEN = 4;

    public static void main(String[] args) {
        proofs();
        stepRefusals();
        lacking();
        lackingSources();
        endsOfOthers();
        endsByKind();
        endsUnderTitles();
        holes();
        filling();
        leaning();
        acting();
        takenAs();
        byDays();
        onItself();
        fullOfAll();
        Due.end();
    }

    /** Rule 0: o to s; rule 1: o and s to h, with a test; papers 0: o123, 1: s123, 2: o123 again, 3: w000. */
    private static DeedProofs office() {
        DeedProofs office = new DeedProofs();
        Due.rule(office, "o(a,b,c)>s(a,b,c)");
        Due.rule(office, "o(a,b,c)&s(a,b,c)&a<d&d#4&l(d,d,d)>h(a,b,d)");
        Due.rule(office, "s(a,b,c)>l(c,c,c)");
        Due.rule(office, "s(a,b,c)&o(a,b,c)>o(c,b,a)");
        office.paper(Due.fact("o123"), 0);
        office.paper(Due.fact("s123"), 1);
        office.paper(Due.fact("o123"), 2);
        office.paper(Due.fact("w000"), 2);
        return office;
    }

    private static int step(DeedProofs office, int proof, int rule, String letters, int... from) {
        return office.step(proof, rule, Due.letters(letters), from.length, from[0], from.length > 1 ? from[1] : 777,
                from.length > 2 ? from[2] : -777);
    }

    private static void proofs() {
        DeedProofs office = new DeedProofs();
        Due.is("kind 5", office.proof(5), DeedProofs.NONE);
        Due.is("kind -1", office.proof(-1), DeedProofs.NONE);
        for (int i = 0; i < 12; i++) {
            Due.is("proof", office.proof(i % 5), i);
        }
        Due.is("a 13th", office.proof(0), DeedProofs.FULL);
        Due.is("none ahead of full", office.proof(5), DeedProofs.NONE);
        Due.is("proofs", office.count(4), 12);
        Due.is("no steps", office.as(3, 3), 0);
        Due.is("not taken", office.check(0, 0), 0);
        Due.is("says nothing", office.says(0, -1, 0), -5);
        Due.is("leans on nothing", office.leans(0), 0);
        Due.is("no holes", office.hole(1, -1), 0);
    }

    private static void stepRefusals() {
        DeedProofs office = office();
        office.proof(LINE);
        Due.is("no proof", office.step(1, 0, 0, 1, 0, 0, 0), DeedProofs.NONE);
        Due.is("proof -1", office.step(-1, 0, 0, 1, 0, 0, 0), DeedProofs.NONE);
        Due.is("no rule", office.step(0, 4, 0, 1, 0, 0, 0), DeedProofs.NONE);
        Due.is("rule -1 ahead of bad", office.step(0, -1, 625, 0, 0, 0, 0), DeedProofs.NONE);
        Due.is("letters 625", office.step(0, 0, 625, 1, 0, 0, 0), DeedProofs.BAD);
        Due.is("letters -1", office.step(0, 0, -1, 1, 0, 0, 0), DeedProofs.BAD);
        Due.is("terms 0", office.step(0, 0, 0, 0, 0, 0, 0), DeedProofs.BAD);
        Due.is("terms 4", office.step(0, 0, 0, 4, 0, 0, 0), DeedProofs.BAD);
        for (int i = 0; i < 12; i++) {
            Due.is("step", step(office, 0, 0, "1234", i == 0 ? 0 : 2), i);
            Due.is("steps", office.as(0, 0), i + 1);
        }
        Due.is("a 13th", step(office, 0, 0, "1234", 0), DeedProofs.FULL);
        Due.is("bad ahead of full", office.step(0, 0, 625, 1, 0, 0, 0), DeedProofs.BAD);
        Due.is("taken", office.check(0, 0), 1);
        Due.is("title", office.title(0), 0);
        Due.is("state ahead of full", step(office, 0, 0, "1234", 0), DeedProofs.STATE);
        Due.is("bad ahead of state", office.step(0, 0, 625, 1, 0, 0, 0), DeedProofs.BAD);
        office.proof(SHARED);
        office.proof(SHARED);
        office.proof(CUT);
        step(office, 1, 0, "1234", 0);
        step(office, 2, 0, "1234", 0);
        Due.is("not used yet", step(office, 1, 0, "1234", 2), 1);
        Due.is("using", step(office, 3, 2, "1234", 201), 0);
        Due.is("used as an end", step(office, 1, 0, "1234", 2), DeedProofs.STATE);
        Due.is("not that one", step(office, 2, 0, "1234", 2), 1);
        Due.is("one beyond the terms", office.step(3, 2, Due.letters("1234"), 1, 0, 202, 202), 1);
        Due.is("is no use", step(office, 2, 0, "1234", 2), 2);
        Due.is("its own", step(office, 2, 0, "1234", 202), 3);
        Due.is("is no end of another", step(office, 2, 0, "1234", 2), 4);
    }

    private static void lacking() {
        DeedProofs office = office();
        office.proof(LINE);
        step(office, 0, 0, "1230", 0);
        step(office, 0, 0, "1230", 0, 1);
        step(office, 0, 1, "1230", 0, 1);
        step(office, 0, 1, "1231", 0, 1, 100);
        step(office, 0, 1, "1234", 0, 1, 100);
        step(office, 0, 1, "1232", 0, 1, 100);
        step(office, 0, 2, "1230", 100);
        step(office, 0, 1, "1233", 0, 1, 106);
        step(office, 0, 1, "1233", 1, 1, 106);
        step(office, 0, 1, "1233", 2, 0, 106);
        step(office, 0, 1, "1233", 2, 100, 107);
        step(office, 0, 1, "1233", 2, 100, 106);
        int[] due = {0, 1, 1, 2, 2, 12, 0, 0, 10, 11, 12, 0};
        for (int i = 0; i < due.length; i++) {
            Due.is("lack of step " + i, office.lacks(0, i, 0), due[i]);
        }
        Due.is("says 0", office.says(0, 0, 0), Due.fact("s123"));
        Due.is("says of a lacking step", office.says(0, 3, 0), Due.fact("h121"));
        Due.is("says of the proof", office.says(0, -1, 999), Due.fact("h123"));
        Due.is("says step 12", office.says(0, 12, 0), DeedProofs.NONE);
        Due.is("says step -2", office.says(0, -2, 0), DeedProofs.NONE);
        Due.is("says no proof", office.says(1, -1, 1000), DeedProofs.NONE);
        Due.is("says day", office.says(0, 0, 1000), DeedProofs.BAD);
        Due.is("says day of the proof", office.says(0, -1, -1), DeedProofs.BAD);
        Due.is("lacks step 12", office.lacks(0, 12, 0), DeedProofs.NONE);
        Due.is("lacks step -1", office.lacks(0, -1, 1000), DeedProofs.NONE);
        Due.is("lacks no proof", office.lacks(1, 0, 0), DeedProofs.NONE);
        Due.is("lacks day", office.lacks(0, 0, 1000), DeedProofs.BAD);
        Due.is("lacks day -1", office.lacks(0, 0, -1), DeedProofs.BAD);
        Due.is("check", office.check(0, 0), 0);
        Due.is("check no proof", office.check(1, 1000), DeedProofs.NONE);
        Due.is("check day", office.check(0, 1000), DeedProofs.BAD);
        Due.is("check day -1", office.check(0, -1), DeedProofs.BAD);
    }

    private static void lackingSources() {
        int[] none = {4, 20, 99, 102, 112, 200, 201, 212, 299, 300, 301, -1, Integer.MIN_VALUE, Integer.MAX_VALUE};
        for (int source : none) {
            DeedProofs office = office();
            office.proof(LINE);
            office.proof(LINE);
            step(office, 0, 0, "1230", 0);
            step(office, 1, 0, "1230", 0);
            step(office, 1, 2, "1230", 100);
            step(office, 1, 2, "1230", source);
            Due.is("from " + source, office.lacks(1, 2, 0), 10);
            Due.is("taken from " + source, office.check(1, 0), 0);
        }
        DeedProofs office = office();
        office.proof(LINE);
        step(office, 0, 0, "1230", 0);
        step(office, 0, 2, "1230", 100);
        Due.is("good", office.check(0, 0), 1);
        office.shown(0, true);
        Due.is("by a false paper", office.lacks(0, 0, 0), 10);
        Due.is("by a step that isn't good", office.lacks(0, 1, 0), 10);
        Due.is("says all the same", office.says(0, 1, 0), Due.fact("l333"));
        Due.is("not taken", office.check(0, 0), 0);
        office.shown(0, false);
        Due.is("good again", office.check(0, 0), 1);
        office.proof(LINE);
        step(office, 1, 2, "1230", 101);
        step(office, 1, 0, "1230", 0);
        Due.is("by a later step", office.lacks(1, 0, 0), 10);
        Due.is("good behind it", office.lacks(1, 1, 0), 0);
        Due.is("not taken for it", office.check(1, 0), 0);
    }

    private static void endsOfOthers() {
        for (int kind = 0; kind < 5; kind++) {
            DeedProofs office = office();
            office.proof(LINE);
            office.proof(kind);
            step(office, 1, 2, "1230", 200);
            Due.is("end of no steps", office.lacks(1, 0, 0), 10);
            office = office();
            office.proof(LINE);
            step(office, 0, 0, "1230", 0);
            office.proof(kind);
            step(office, 1, 2, "1230", 200);
            step(office, 1, 0, "1230", 200);
            boolean allowed = kind == SHARED || kind == CUT;
            Due.is("end in kind " + kind, office.lacks(1, 0, 0), allowed ? 0 : 10);
            Due.is("another fact in kind " + kind, office.lacks(1, 1, 0), 10);
            office.shown(0, true);
            Due.is("end not taken in kind " + kind, office.lacks(1, 0, 0), 10);
        }
        DeedProofs office = office();
        office.proof(SHARED);
        office.proof(SHARED);
        step(office, 1, 0, "1230", 0);
        step(office, 0, 2, "1230", 201);
        Due.is("end of a greater number", office.lacks(0, 0, 0), 10);
        office.proof(PIECE);
        step(office, 2, 0, "1230", 300);
        office.proof(OPEN);
        step(office, 3, 0, "1230", 300);
        office.proof(CUT);
        step(office, 4, 2, "1230", 202);
        step(office, 4, 2, "1230", 203);
        Due.is("end with a hole", office.lacks(4, 0, 0), 10);
        Due.is("end of an open one", office.lacks(4, 1, 0), 0);
        Due.is("not taken", office.check(4, 0), 0);
        Due.is("filled", office.fill(2, 0), 0);
        Due.is("end without a hole", office.lacks(4, 0, 0), 0);
        Due.is("taken", office.check(4, 0), 1);
    }

    private static void holes() {
        for (int kind = 0; kind < 5; kind++) {
            DeedProofs office = office();
            office.proof(kind);
            step(office, 0, 3, "1230", 300, 0);
            step(office, 0, 1, "1233", 300, 1, 300);
            office.step(0, 2, Due.letters("1230"), 1, 1, 300, 300);
            boolean allowed = kind == PIECE || kind == OPEN;
            Due.is("holes in kind " + kind, office.hole(0, -1), allowed ? 3 : 0);
            Due.is("first in kind " + kind, office.hole(0, 0), allowed ? 0 : DeedProofs.NONE);
            Due.is("second in kind " + kind, office.hole(0, 1), allowed ? 10 : DeedProofs.NONE);
            Due.is("third in kind " + kind, office.hole(0, 2), allowed ? 12 : DeedProofs.NONE);
            Due.is("fourth in kind " + kind, office.hole(0, 3), DeedProofs.NONE);
            Due.is("hole -2", office.hole(0, -2), DeedProofs.NONE);
            Due.is("lacks in kind " + kind, office.lacks(0, 0, 0), allowed ? 0 : 10);
            Due.is("check in kind " + kind, office.check(0, 0), kind == OPEN ? 1 : 0);
            Due.is("fill in kind " + kind, office.fill(0, 1), allowed ? 2 : DeedProofs.STATE);
        }
        DeedProofs office = office();
        Due.is("hole of no proof", office.hole(0, -1), DeedProofs.NONE);
        Due.is("hole of proof -1", office.hole(-1, -1), DeedProofs.NONE);
    }

    private static void filling() {
        DeedProofs office = office();
        Due.is("no proof", office.fill(0, 0), DeedProofs.NONE);
        office.proof(PIECE);
        Due.is("no steps", office.fill(0, 0), DeedProofs.STATE);
        step(office, 0, 0, "1230", 0);
        Due.is("no hole", office.fill(0, 0), DeedProofs.STATE);
        step(office, 0, 3, "1230", 300, 300);
        step(office, 0, 0, "1230", 0);
        int[] none = {-1, 0, 3, 4, 20, 101, 102, 103, 200, 300, Integer.MIN_VALUE, Integer.MAX_VALUE};
        for (int from : none) {
            Due.is("from " + from, office.fill(0, from), DeedProofs.STATE);
        }
        office.shown(1, true);
        Due.is("from a false paper", office.fill(0, 1), DeedProofs.STATE);
        Due.is("holes stay", office.hole(0, -1), 2);
        Due.is("from a step", office.fill(0, 100), 1);
        Due.is("the other is first", office.hole(0, 0), 11);
        Due.is("that step says another", office.fill(0, 100), DeedProofs.STATE);
        Due.is("from a paper", office.fill(0, 2), 0);
        Due.is("all filled", office.fill(0, 2), DeedProofs.STATE);
        Due.is("taken", office.check(0, 0), 1);
        Due.is("leans", office.leans(0), 5);
        DeedProofs changed = office();
        changed.proof(OPEN);
        step(changed, 0, 3, "1230", 1, 300);
        Due.change(changed, 3, 4, "s(a,b,c)>o(c,b,a)");
        Due.change(changed, 3, 6, "s(a,b,c)&w(d,d,d)>o(c,b,a)");
        changed.day(4);
        Due.is("no such term", changed.fill(0, 0), DeedProofs.STATE);
        changed.day(2);
        Due.is("another term", changed.fill(0, 0), DeedProofs.STATE);
        Due.is("as it is today", changed.fill(0, 3), 0);
        Due.is("taken today", changed.check(0, 6), 1);
        Due.is("not at first", changed.lacks(0, 0, 0), 11);
        // A text that had a fault leaves nothing behind for the next one.
        DeedProofs left = office();
        left.proof(OPEN);
        step(left, 0, 3, "1230", 1, 300);
        Due.is("a fault", Due.change(left, 3, 0, "s(a,b,c)&o(a,b,c)>x"), -28);
        Due.is("a change", Due.change(left, 3, 0, "s(a,b,c)>o(c,b,a)"), 1);
        Due.is("it has no such term", left.fill(0, 0), DeedProofs.STATE);
        DeedProofs least = new DeedProofs();
        Due.rule(least, "o(a,b,c)>s(a,b,c)");
        least.paper(0, 0);
        least.proof(PIECE);
        step(least, 0, 0, "0000", 300);
        Due.is("with the fact 0", least.fill(0, 0), 0);
    }

    private static void leaning() {
        DeedProofs office = office();
        Due.is("no proof", office.leans(0), DeedProofs.NONE);
        Due.is("proof -1", office.leans(-1), DeedProofs.NONE);
        office.proof(LINE);
        step(office, 0, 0, "1230", 0);
        step(office, 0, 0, "0000", 3);
        step(office, 0, 2, "1230", 100);
        Due.is("by all steps", office.leans(0), 9);
        office.proof(SHARED);
        step(office, 1, 2, "1230", 1);
        office.step(1, 2, Due.letters("1230"), 1, 1, 2, 2);
        Due.is("not by those beyond", office.leans(1), 2);
        step(office, 1, 2, "1230", 200);
        Due.is("by ends", office.leans(1), 11);
        office.proof(CUT);
        step(office, 2, 3, "1230", 201, 2);
        Due.is("by ends of ends", office.leans(2), 15);
        office.shown(3, true);
        Due.is("on false ones too", office.leans(2), 15);
        office.proof(LINE);
        step(office, 3, 0, "1230", 4);
        Due.is("on none such", office.leans(3), 0);
        step(office, 3, 0, "1230", Integer.MAX_VALUE);
        step(office, 3, 0, "1230", -1);
        Due.is("on nothing", office.leans(3), 0);
    }

    /** Only SHARED and CUT use ends: in other KINDS 200 and q is no use of q, and no PAPER of q is leant on. */
    private static void endsByKind() {
        for (int kind = 0; kind < 5; kind++) {
            boolean uses = kind == SHARED || kind == CUT;
            DeedProofs office = office();
            office.proof(SHARED);
            office.proof(LINE);
            office.proof(kind);
            step(office, 1, 0, "1230", 0);
            step(office, 2, 3, "1230", 201, 2);
            Due.is("leans in kind " + kind, office.leans(2), uses ? 5 : 4);
            Due.is("used in kind " + kind, step(office, 1, 0, "1230", 2), uses ? DeedProofs.STATE : 1);
            Due.is("leans then in kind " + kind, office.leans(2), uses ? 5 : 4);
            step(office, 2, 2, "1230", 200);
            Due.is("one of no steps in kind " + kind, step(office, 0, 0, "1230", 0), uses ? DeedProofs.STATE : 0);
            office.proof(CUT);
            step(office, 3, 2, "1230", 202);
            Due.is("leans by one of kind " + kind, office.leans(3), uses ? 5 : 4);
            Due.is("used by a cut in kind " + kind, step(office, 2, 0, "1230", 0), DeedProofs.STATE);
        }
        DeedProofs office = office();
        office.proof(SHARED);
        office.proof(CUT);
        step(office, 0, 2, "1230", 201);
        Due.is("an end of a greater number is no use", step(office, 1, 0, "1230", 0), 0);
        Due.is("and not leant on", office.leans(0), 0);
    }

    /** Two TITLES that clash part by what they lean on: a STEP's 200 and q in a CUT leads to q's PAPERS. */
    private static void endsUnderTitles() {
        DeedProofs office = new DeedProofs();
        Due.rule(office, "o(a,b,c)>o(c,b,a)");
        office.paper(Due.fact("o123"), 0);
        office.paper(Due.fact("o422"), 0);
        office.proof(LINE);
        step(office, 0, 0, "1230", 0);
        office.proof(CUT);
        step(office, 1, 0, "3210", 200);
        office.proof(LINE);
        step(office, 2, 0, "4220", 1);
        Due.is("title by an end", office.title(1), 0);
        Due.is("title by a paper", office.title(2), 1);
        Due.is("parts", office.clash(0, 1), 3);
    }

    private static void acting() {
        DeedProofs office = office();
        int[] kinds = {LINE, LINE, PIECE, SHARED, CUT, OPEN};
        for (int kind : kinds) {
            int proof = office.proof(kind);
            for (int i = 0; i < proof; i++) {
                step(office, proof, 0, "1230", 0);
            }
        }
        int[] xs = {0, 7, -3, Integer.MAX_VALUE, Integer.MIN_VALUE, 1 << 30};
        for (int x : xs) {
            Due.is("line leans", office.act(1, 0, x), x + 1);
            Due.is("line shows", office.act(1, 1, x), x);
            Due.is("line ends", office.act(1, 2, x), x * 2);
            Due.is("piece leans", office.act(2, 0, x), x * 2 + 2);
            Due.is("piece shows", office.act(2, 1, x), x * 2);
            Due.is("piece ends", office.act(2, 2, x), x * 4);
            Due.is("shared leans", office.act(3, 0, x), x + 3);
            Due.is("shared shows", office.act(3, 1, x), x ^ 5);
            Due.is("shared ends", office.act(3, 2, x), (x ^ 5) * 2);
            Due.is("cut leans", office.act(4, 0, x), x + 4);
            Due.is("cut shows", office.act(4, 1, x), x);
            Due.is("cut ends", office.act(4, 2, x), -(x * 2));
            Due.is("open leans", office.act(5, 0, x), x * 2 + 5);
            Due.is("open shows", office.act(5, 1, x), x * 2 + 2);
            Due.is("open ends", office.act(5, 2, x), (x * 2 + 2) * 2 + 7);
        }
        Due.is("act 3", office.act(1, 3, 9), 0);
        Due.is("act -1", office.act(1, -1, 9), 0);
        Due.is("no proof", office.act(6, 0, 9), 0);
        Due.is("proof -1", office.act(-1, 0, 9), 0);
    }

    private static void takenAs() {
        DeedProofs office = office();
        for (int kind = 0; kind < 5; kind++) {
            office.proof(kind);
            step(office, kind, 0, "1230", 0);
            step(office, kind, 0, "1230", 0);
            for (int k = 0; k < 5; k++) {
                boolean under = k == kind || k == LINE || (k == PIECE && kind == OPEN);
                Due.is(kind + " as " + k, office.as(kind, k), under ? 2 : -6);
            }
            Due.is("as 5", office.as(kind, 5), DeedProofs.NONE);
            Due.is("as -1", office.as(kind, -1), DeedProofs.NONE);
        }
        Due.is("no proof", office.as(5, 0), DeedProofs.NONE);
        Due.is("proof -1", office.as(-1, 0), DeedProofs.NONE);
    }

    private static void byDays() {
        DeedProofs office = office();
        office.proof(LINE);
        step(office, 0, 0, "1230", 0);
        step(office, 0, 2, "1230", 100);
        Due.change(office, 0, 3, "o(a,b,c)&o(a,b,c)>s(a,b,c)");
        Due.change(office, 0, 5, "o(a,b,c)&a=2>s(a,b,c)");
        Due.change(office, 0, 7, "o(a,b,c)>s(c,b,a)");
        int[] days = {2, 3, 5, 7};
        int[] lack = {0, 1, 2, 0};
        String[] says = {"s123", "s123", "s123", "s321"};
        for (int i = 0; i < days.length; i++) {
            Due.is("lacks on " + days[i], office.lacks(0, 0, days[i]), lack[i]);
            Due.is("says on " + days[i], office.says(0, 0, days[i]), Due.fact(says[i]));
            Due.is("next on " + days[i], office.lacks(0, 1, days[i]), i == 0 ? 0 : 10);
            Due.is("check on " + days[i], office.check(0, days[i]), i == 0 ? 1 : 0);
        }
    }

    private static void onItself() {
        DeedProofs office = new DeedProofs();
        Due.rule(office, "o(a,b,c)>o(a,b,c)");
        office.paper(Due.fact("o123"), 0);
        office.proof(SHARED);
        office.proof(SHARED);
        step(office, 0, 0, "1230", 100);
        Due.is("a step by itself", office.lacks(0, 0, 0), 10);
        step(office, 1, 0, "1230", 0);
        Due.is("taken", office.check(1, 0), 1);
        step(office, 1, 0, "1230", 201);
        Due.is("a proof by itself", office.lacks(1, 1, 0), 10);
        Due.is("a proof by itself again", office.lacks(1, 1, 0), 10);
        Due.is("not taken", office.check(1, 0), 0);
    }

    private static void fullOfAll() {
        DeedProofs office = new DeedProofs();
        for (int i = 0; i < 8; i++) {
            Due.rule(office, "o(a,b,c)>o(c,a,b)");
        }
        for (int i = 0; i < 20; i++) {
            office.paper(31, 0);
        }
        for (int p = 0; p < 12; p++) {
            office.proof(p == 11 ? OPEN : CUT);
            for (int s = 0; s < 12; s++) {
                step(office, p, 7, "1110", p == 11 ? 300 : s == 11 && p > 0 ? 199 + p : s == 0 ? 19 : 99 + s);
            }
            Due.is("taken " + p, office.check(p, 999), 1);
            Due.is("last of " + p, office.lacks(p, 11, 0), 0);
            Due.is("leans of " + p, office.leans(p), p == 11 ? 0 : 1 << 19);
        }
        Due.is("full", step(office, 11, 7, "1110", 19), DeedProofs.FULL);
        Due.is("holes", office.hole(11, -1), 12);
        Due.is("last hole", office.hole(11, 11), 110);
        Due.is("no more holes", office.hole(11, 12), DeedProofs.NONE);
        for (int left = 11; left >= 0; left--) {
            Due.is("fill", office.fill(11, left == 11 ? 19 : 100), left);
        }
        Due.is("no hole is left", office.fill(11, 19), DeedProofs.STATE);
        Due.is("leans then", office.leans(11), 1 << 19);
        Due.is("title", office.title(11), 0);
        Due.is("carried", office.carry(0, 999), -5);
        Due.is("stands", office.stand(0, 999), 1);
        Due.is("by another paper", office.fall(19), 0);
        Due.is("no paper is needed", office.every(31), 0);
    }
}
