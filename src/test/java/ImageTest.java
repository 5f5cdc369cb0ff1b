/** Promises 33 to 35: image, undo, count. */
public final class ImageTest {
    public static void main(String[] args) {
        counts();
        images();
        Due.end();
    }

    /** An office that has some of all there is. */
    private static DeedProofs office() {
        DeedProofs office = new DeedProofs();
        Due.rule(office, "s(a,b,c)>o(b,a,c)");
        Due.rule(office, "o(a,b,c)&a#d&h(d,d,d)>l(a,b,c)");
        office.paper(Due.fact("s123"), 0);
        office.paper(Due.fact("h000"), 1);
        office.paper(Due.fact("o213"), 1);
        office.shown(2, true);
        office.day(4);
        Due.change(office, 1, 6, "o(a,b,c)>l(a,b,c)");
        for (int kind = 0; kind < 5; kind++) {
            office.proof(kind);
        }
        office.step(0, 0, Due.letters("1230"), 1, 0, 0, 0);
        office.step(4, 1, Due.letters("2130"), 2, 300, 300, 0);
        office.step(2, 1, Due.letters("2130"), 2, 200, 1, 0);
        office.title(0);
        office.title(2);
        Due.tactic(office, "(0;1)*");
        office.run(0, 1, 0);
        Due.feed(office, "o(a");
        return office;
    }

    private static void counts() {
        DeedProofs office = office();
        int[] due = {4, 2, 1, 3, 5, 2, 1, 3};
        for (int what = 0; what < due.length; what++) {
            Due.is("count " + what, office.count(what), due[what]);
        }
        Due.is("count 8", office.count(8), DeedProofs.NONE);
        Due.is("count -1", office.count(-1), DeedProofs.NONE);
    }

    private static void changeAll(DeedProofs office) {
        Due.feed(office, ",b,c)>o(c,b,a)");
        Due.is("a rule with the tape", office.rule(), 2);
        Due.change(office, 0, 999, "o(a,b,c)>l(a,b,c)");
        office.paper(Due.fact("w123"), 4);
        office.shown(0, true);
        office.shown(2, false);
        Due.is("a hole is filled", office.fill(4, 2), 1);
        office.proof(1);
        office.step(3, 0, Due.letters("1230"), 1, 0, 0, 0);
        Due.tactic(office, "2");
        office.run(1, 3, 0);
        office.day(90);
        Due.feed(office, "xx");
    }

    /** Whether a rule comes of the tape and what is fed behind it; its bytes are seen in no other way. */
    private static boolean tapeIs(DeedProofs office, String start, String rest) {
        boolean fits = office.count(7) == start.length();
        return Due.rule(office, rest) >= 0 && fits;
    }

    private static void images() {
        DeedProofs office = office();
        Due.is("none yet", office.undo(), DeedProofs.STATE);
        String before = Picture.of(office);
        Due.is("image", office.image(), 4);
        Due.is("image changes nothing", before.equals(Picture.of(office)) ? 1 : 0, 1);
        changeAll(office);
        Due.is("all is otherwise", before.equals(Picture.of(office)) ? 1 : 0, 0);
        Due.is("undo", office.undo(), 4);
        Due.is("the tape is as it was", tapeIs(office, "o(a", ",b,c)>s(a,b,c)") ? 1 : 0, 1);
        Due.is("undo", office.undo(), 4);
        Due.is("all is as it was", before.equals(Picture.of(office)) ? 1 : 0, 1);
        changeAll(office);
        Due.is("undo again", office.undo(), 4);
        Due.is("all is as it was again", before.equals(Picture.of(office)) ? 1 : 0, 1);
        changeAll(office);
        String later = Picture.of(office);
        Due.is("another image", office.image(), 94);
        office.day(5);
        office.shown(0, false);
        Due.is("undo to that", office.undo(), 94);
        Due.is("as it was later", later.equals(Picture.of(office)) ? 1 : 0, 1);
        DeedProofs fresh = new DeedProofs();
        fresh.image();
        Due.tactic(fresh, "0");
        fresh.run(0, 1, 0);
        Due.is("ran", fresh.found(0), 0);
        Due.is("undo to nothing", fresh.undo(), 0);
        Due.is("none ran", fresh.found(0), DeedProofs.STATE);
        for (int what = 0; what < 8; what++) {
            Due.is("nothing of " + what, fresh.count(what), 0);
        }
    }
}
