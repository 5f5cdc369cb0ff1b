import java.util.function.Supplier;

/** Promises 33 to 35: image, undo, count. */
public final class ImageTest {
    private static final Supplier<DeedProofs> IMAGED = Offices.then(ImageTest::office, DeedProofs::image);
    private static final Supplier<DeedProofs> CHANGED = Offices.then(IMAGED, ImageTest::changeAll);
    private static final Supplier<DeedProofs> UNDONE = Offices.then(CHANGED, DeedProofs::undo);

    public static void main(String[] args) {
        counts();
        countRefused();
        undoWithoutImage();
        imageChangesNothing();
        undoIsAsTheImage();
        undoneTape();
        undoneAgain();
        undoneProofs();
        laterImage();
        imageOfANewObject();
        Due.end();
    }

    /** An office that has some of all there is. */
    private static DeedProofs office() {
        DeedProofs office = new DeedProofs();
        Due.rule(office, "s(a,b,c)>o(b,a,c)");
        Due.rule(office, "o(a,b,c)&a#d&h(d,d,d)>l(a,b,c)");
        office.paper(Due.fact("s123"), 0);
        office.paper(Due.fact("h000"), 1);
        office.paper(Due.fact("o213"), 1);
        office.shown(2, true);
        office.day(4);
        Due.change(office, 1, 6, "o(a,b,c)>l(a,b,c)");
        for (int kind = 0; kind < 5; kind++) {
            office.proof(kind);
        }
        office.step(0, 0, Due.letters("1230"), 1, 0, 0, 0);
        office.step(4, 1, Due.letters("2130"), 2, 300, 300, 0);
        office.step(2, 1, Due.letters("2130"), 2, 200, 1, 0);
        office.title(0);
        office.title(2);
        Due.tactic(office, "(0;1)*");
        office.run(0, 1, 0);
        Due.feed(office, "o(a");
        return office;
    }

    private static void changeAll(DeedProofs office) {
        Due.feed(office, ",b,c)>o(c,b,a)");
        Due.is("a rule with the tape", office.rule(), 2);
        Due.change(office, 0, 999, "o(a,b,c)>l(a,b,c)");
        office.paper(Due.fact("w123"), 4);
        office.shown(0, true);
        office.shown(2, false);
        Due.is("a hole is filled", office.fill(4, 2), 1);
        office.proof(1);
        office.step(3, 0, Due.letters("1230"), 1, 0, 0, 0);
        Due.tactic(office, "2");
        office.run(1, 3, 0);
        office.day(90);
        Due.feed(office, "xx");
    }

    private static void counts() {
        DeedProofs office = office();
        int[] due = {4, 2, 1, 3, 5, 2, 1, 3};
        int[] most = {999, 8, 12, 20, 12, 10, 6, 120};
        for (int what = 0; what < due.length; what++) {
            Due.is("count " + what, office.count(what), due[what]);
            Due.is("count of a full " + what, Offices.full().count(what), most[what]);
            Due.is("count of a new " + what, new DeedProofs().count(what), 0);
        }
    }

    /** count: "NONE." */
    private static void countRefused() {
        for (int what : new int[] {-1, 8, Integer.MIN_VALUE, Integer.MAX_VALUE}) {
            Still.refused("count " + what, Offices::someWithTape, DeedProofs.NONE, office -> office.count(what));
        }
    }

    /** undo: "STATE: there is none." */
    private static void undoWithoutImage() {
        Still.refused("undo without an image", ImageTest::office, DeedProofs.STATE, DeedProofs::undo);
        Still.refused("undo of a new one", DeedProofs::new, DeedProofs.STATE, DeedProofs::undo);
    }

    /** "THE IMAGE is taken: TODAY." */
    private static void imageChangesNothing() {
        DeedProofs office = office();
        Due.is("image", office.image(), 4);
        Due.is("image again", office.image(), 4);
        Still.alike("a second image changes nothing", IMAGED, Offices.then(IMAGED, DeedProofs::image));
        Still.alike("an image changes nothing but what undo answers",
                Offices.then(IMAGED, DeedProofs::undo), IMAGED);
    }

    /** "All is as THE IMAGE: TODAY." */
    private static void undoIsAsTheImage() {
        Still.unlike("all is otherwise", IMAGED, CHANGED);
        Due.is("undo", CHANGED.get().undo(), 4);
        Still.alike("all is as it was", IMAGED, UNDONE);
    }

    /** "THE IMAGE: all that there is": the bytes of THE TAPE, too. */
    private static void undoneTape() {
        DeedProofs office = UNDONE.get();
        Due.is("bytes", office.count(7), 3);
        Due.is("a rule of them and the rest", Due.rule(office, ",b,c)>s(a,b,c)"), 2);
        DeedProofs empty = new DeedProofs();
        empty.image();
        Due.feed(empty, "x");
        empty.undo();
        Due.is("no bytes", empty.count(7), 0);
        Due.is("none is left", Due.rule(empty, "o(a,b,c)>s(a,b,c)"), 0);
    }

    /** "THE IMAGE: all that there is (but THE IMAGE)": it stays. */
    private static void undoneAgain() {
        Still.alike("undo twice", IMAGED, Offices.then(UNDONE, DeedProofs::undo));
        Supplier<DeedProofs> again = Offices.then(Offices.then(UNDONE, ImageTest::changeAll), DeedProofs::undo);
        Due.is("undo again", Offices.then(UNDONE, ImageTest::changeAll).get().undo(), 4);
        Still.alike("all is as it was again", IMAGED, again);
    }

    /** "All is as THE IMAGE": what was asked for ahead of undo leaves nothing behind, and numbers are given anew. */
    private static void undoneProofs() {
        DeedProofs office = IMAGED.get();
        office.step(4, 0, Due.letters("1230"), 1, 0, 0, 0);
        office.step(3, 0, Due.letters("1230"), 1, 0, 0, 0);
        Due.is("leans", office.leans(4), 1);
        Due.is("leans of another", office.leans(3), 1);
        Due.is("taken", office.check(3, 4), 1);
        office.proof(0);
        office.step(5, 0, Due.letters("1230"), 1, 0, 0, 0);
        Due.is("leans of the last", office.leans(5), 1);
        office.undo();
        Due.is("leans no more", office.leans(4), 0);
        Due.is("nor another", office.leans(3), 0);
        Due.is("not taken", office.check(3, 4), 0);
        Due.is("the last is not there", office.leans(5), DeedProofs.NONE);
        Due.is("one of another kind", office.proof(2), 5);
        Due.is("has no steps", office.as(5, 2), 0);
        Due.is("is of its own kind", office.as(5, 1), -6);
        Due.is("leans on nothing", office.leans(5), 0);
    }

    private static void laterImage() {
        Supplier<DeedProofs> later = Offices.then(CHANGED, DeedProofs::image);
        Supplier<DeedProofs> undone = Offices.then(later, office -> {
            office.day(5);
            office.shown(0, false);
            Due.is("undo to the later one", office.undo(), 94);
        });
        Still.alike("all is as it was later", later, undone);
        Still.unlike("not as at first", IMAGED, undone);
    }

    private static void imageOfANewObject() {
        DeedProofs fresh = new DeedProofs();
        Due.is("image of nothing", fresh.image(), 0);
        Due.tactic(fresh, "0");
        fresh.run(0, 1, 0);
        Due.is("ran", fresh.found(0), 0);
        Due.is("undo to nothing", fresh.undo(), 0);
        Due.is("none ran", fresh.found(0), DeedProofs.STATE);
        Still.alike("a new one with its image", Offices.then(DeedProofs::new, DeedProofs::image),
                Offices.then(Offices.then(Offices.then(DeedProofs::new, DeedProofs::image), ImageTest::grow),
                        DeedProofs::undo));
    }

    private static void grow(DeedProofs office) {
        Due.rule(office, "s(a,b,c)>o(b,a,c)");
        office.paper(Due.fact("s123"), 0);
        office.proof(0);
        office.step(0, 0, Due.letters("1230"), 1, 0, 0, 0);
        office.title(0);
        Due.tactic(office, "0");
        office.run(0, 1, 0);
        office.day(7);
    }
}
