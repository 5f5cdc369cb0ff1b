/**
 * Terms 1 to 4: on which DAY what counts. RULES have texts by DAYS; PAPERS, PROOFS and TITLES are as they are now.
 * Above each test stands the sentence that it is for.
 */
public final class DaysTest {
    public static void main(String[] args) {
        ownTextFromDay0();
        papersOnEarlierDays();
        falseOnAllDays();
        heightsAndSizesOnADay();
        proofsOnEarlierDays();
        textOfTheTitlesDay();
        titleKeepsItsFact();
        titlesOfOneProof();
        byRulesOfToday();
        carriedByEnds();
        fallenByEnds();
        partedByEndsThatLack();
        Due.end();
    }

    /** RULE 0 turns s to o, PAPER 0 says s123; TODAY is 7. */
    private static DeedProofs onDay7() {
        DeedProofs office = new DeedProofs();
        office.day(7);
        Due.rule(office, "s(a,b,c)>o(b,a,c)");
        office.paper(Due.fact("s123"), 0);
        return office;
    }

    /** "at first (from DAY 0 on) its own": whenever it was told. */
    private static void ownTextFromDay0() {
        DeedProofs office = onDay7();
        for (int day : new int[] {0, 6, 7, 999}) {
            Due.is("its terms on " + day, office.told(0, day, 0), 1);
            Due.is("its own text on " + day, office.told(0, day, 2), -5);
            Due.is("what it gives on " + day, office.follows(Due.fact("o213"), day, 1), 1);
        }
        Due.is("a change", Due.change(office, 0, 7, "s(a,b,c)&s(a,b,c)>w(b,a,c)"), 1);
        Due.is("its own the day ahead", office.told(0, 6, 0), 1);
        Due.is("what it gives the day ahead", office.follows(Due.fact("o213"), 6, 0), 1);
        Due.is("no more then", office.follows(Due.fact("o213"), 7, 0), 0);
    }

    /** "FOLLOWS on a DAY: a FACT of a PAPER that isn't FALSE": on whatever DAY it came. */
    private static void papersOnEarlierDays() {
        DeedProofs office = onDay7();
        for (int day : new int[] {0, 6, 7, 999}) {
            Due.is("on " + day, office.follows(Due.fact("s123"), day, 2), 1);
            Due.is("many on " + day, office.many(day), 2);
        }
    }

    /** "Each may be shown FALSE, and true again": it is then, on all DAYS. */
    private static void falseOnAllDays() {
        DeedProofs office = onDay7();
        office.proof(Offices.LINE);
        Offices.step(office, 0, 0, "1230", 0);
        office.shown(0, true);
        for (int day : new int[] {0, 7, 999}) {
            Due.is("many on " + day, office.many(day), 0);
            Due.is("lacks on " + day, office.lacks(0, 0, day), 10);
        }
        office.day(1);
        office.shown(0, false);
        for (int day : new int[] {0, 7, 999}) {
            Due.is("many again on " + day, office.many(day), 2);
            Due.is("good again on " + day, office.lacks(0, 0, day), 0);
        }
    }

    /** "the END of a RULE (its text on that DAY)": HEIGHT and SIZE, too. */
    private static void heightsAndSizesOnADay() {
        DeedProofs office = new DeedProofs();
        Due.rule(office, "s(a,b,c)>o(b,a,c)");
        Due.rule(office, "s(a,b,c)>l(b,a,c)");
        office.paper(Due.fact("s123"), 0);
        Due.change(office, 0, 3, "s(a,b,c)&l(b,a,c)>o(b,a,c)");
        Due.change(office, 0, 5, "l(b,a,c)&l(b,a,c)&l(b,a,c)>o(b,a,c)");
        Due.change(office, 1, 8, "o(a,b,c)>l(a,b,c)");
        int[] days = {0, 2, 3, 4, 5, 7, 8, 999};
        int[] heights = {1, 1, 2, 2, 2, 2, -5, -5};
        int[] sizes = {2, 2, 4, 4, 7, 7, -5, -5};
        for (int i = 0; i < days.length; i++) {
            Due.is("height on " + days[i], office.follows(Due.fact("o213"), days[i], 1), heights[i]);
            Due.is("size on " + days[i], office.follows(Due.fact("o213"), days[i], 2), sizes[i]);
        }
    }

    /** "A STEP is good on a DAY, if its RULE's text then ..": whenever it came. */
    private static void proofsOnEarlierDays() {
        DeedProofs office = onDay7();
        office.proof(Offices.LINE);
        Offices.step(office, 0, 0, "1230", 0);
        for (int day : new int[] {0, 6, 7, 999}) {
            Due.is("good on " + day, office.lacks(0, 0, day), 0);
            Due.is("says on " + day, office.says(0, -1, day), Due.fact("o213"));
            Due.is("taken on " + day, office.check(0, day), 1);
        }
    }

    /** A TITLE of DAY 7 by PAPER 0; the RULE is changed from that same DAY on then. */
    private static DeedProofs titledThenChanged(String text) {
        DeedProofs office = onDay7();
        office.proof(Offices.LINE);
        Offices.step(office, 0, 0, "1230", 0);
        Due.is("title", office.title(0), 0);
        Due.is("a change of the same day", Due.change(office, 0, 7, text), 1);
        return office;
    }

    /** "by its own PROOF, if that is TAKEN by the RULES of the TITLE's DAY": of one DAY the later told. */
    private static void textOfTheTitlesDay() {
        DeedProofs office = titledThenChanged("s(a,b,c)&a=0>o(b,a,c)");
        Due.is("not taken any more", office.stand(0, 7), 0);
        Due.is("nor carried", office.carry(0, 7), 0);
        Due.is("good the day ahead", office.carry(0, 6), -5);
        Due.rule(office, "s(a,b,c)>o(b,a,c)");
        Due.is("by another way", office.stand(0, 7), 2);
        Due.is("taken all the same", titledThenChanged("s(a,b,c)&a=1>o(b,a,c)").stand(0, 7), 1);
    }

    /** "each of a PROOF that is TAKEN on a DAY (TODAY): its FACT, and that DAY" */
    private static void titleKeepsItsFact() {
        DeedProofs office = titledThenChanged("s(a,b,c)>w(a,b,c)");
        Due.is("the proof says another", office.says(0, -1, 7), Due.fact("w123"));
        Due.is("it is taken", office.stand(0, 7), 1);
        Due.rule(office, "s(a,b,c)>o(b,a,c)");
        office.proof(Offices.LINE);
        Offices.step(office, 1, 1, "1230", 0);
        Due.is("a title of the fact it had", office.title(1), DeedProofs.STATE);
        office.proof(Offices.OPEN);
        Offices.step(office, 2, 1, "1230", 0);
        Offices.step(office, 2, 0, "1230", 300);
        Due.is("a title of the fact that its proof says", office.title(2), 1);
    }

    /** "no two of one FACT": of one PROOF there may be two. */
    private static void titlesOfOneProof() {
        DeedProofs office = onDay7();
        office.proof(Offices.LINE);
        Offices.step(office, 0, 0, "1230", 0);
        Due.is("title", office.title(0), 0);
        Due.change(office, 0, 9, "s(a,b,c)>w(a,b,c)");
        office.day(1);
        Due.is("of the same fact", office.title(0), DeedProofs.STATE);
        office.day(1);
        Due.is("of another fact", office.title(0), 1);
        Due.is("of that again", office.title(0), DeedProofs.STATE);
        Due.is("titles", office.count(5), 2);
        Due.is("the first is of its day", office.stand(0, 7), 1);
        Due.is("the second is of a later one", office.stand(1, 8), DeedProofs.BAD);
        Due.is("and stands", office.stand(1, 9), 1);
        office.shown(0, true);
        Due.is("the first falls", office.stand(0, 9), 0);
        Due.is("the second falls", office.stand(1, 9), 0);
        office.shown(0, false);
        Due.is("both would fall", office.fall(0), 3);
    }

    /** "EVERY PROOF .. TODAY. ENOUGH .. COULD ..": by the RULES of TODAY. */
    private static void byRulesOfToday() {
        DeedProofs office = new DeedProofs();
        Due.rule(office, "s(a,b,c)>o(b,a,c)");
        Due.change(office, 0, 2, "h(a,b,c)>o(b,a,c)");
        Due.change(office, 0, 4, "m(a,b,c)>o(b,a,c)");
        Due.change(office, 0, 6, "s(a,b,c)&h(a,b,c)>o(b,a,c)");
        office.paper(Due.fact("s123"), 1);
        office.paper(Due.fact("h123"), 1);
        office.proof(Offices.LINE);
        Offices.step(office, 0, 0, "1230", 0);
        office.title(0);
        int[] due = {1, 2, -5, 3};
        for (int i = 0; i < due.length; i++) {
            Due.is("every on " + 2 * i, office.every(Due.fact("o213")), due[i]);
            Due.is("enough on " + 2 * i, office.enough(Due.fact("o213"), 3), due[i]);
            Due.is("could on " + 2 * i, office.could(0, Due.fact("o213")), due[i]);
            Due.is("fall of its own paper on " + 2 * i, office.fall(0), i == 1 ? 0 : 1);
            office.day(2);
        }
    }

    /** LINE 0 says o213 by PAPER 0; SHARED 1 has a STEP by PAPER 1, then one that says l213 by that LINE's end and PAPER 1. */
    private static DeedProofs withALemma() {
        DeedProofs office = onDay7();
        Due.rule(office, "o(a,b,c)&h(d,d,d)>l(a,b,c)");
        Due.rule(office, "h(a,b,c)>m(a,b,c)");
        office.paper(Due.fact("h000"), 1);
        office.proof(Offices.LINE);
        office.proof(Offices.SHARED);
        Offices.step(office, 0, 0, "1230", 0);
        Offices.step(office, 1, 2, "0000", 1);
        Offices.step(office, 1, 1, "2130", 200, 1);
        Due.is("title by a lemma", office.title(1), 0);
        return office;
    }

    /** "CARRIED: the first of its STEPS that isn't good by RULES of a DAY": one by an end that isn't TAKEN then isn't. */
    private static void carriedByEnds() {
        DeedProofs office = withALemma();
        Due.is("all are good", office.carry(0, 999), -5);
        Due.change(office, 0, 9, "s(a,b,c)&a=0>o(b,a,c)");
        Due.is("the day ahead", office.carry(0, 8), -5);
        Due.is("by the lemma's rule", office.carry(0, 9), 1);
        Due.is("it stands by the rules of its day", office.stand(0, 9), 1);
        Due.change(office, 2, 11, "h(a,b,c)&a=1>m(a,b,c)");
        Due.is("its own step ahead of that", office.carry(0, 11), 0);
    }

    /** "TITLES that STAND TODAY (in any way) and would FALL with a PAPER shown FALSE": by an end's PAPER, too. */
    private static void fallenByEnds() {
        DeedProofs office = withALemma();
        Due.is("the lemma's paper", office.fall(0), 1);
        Due.is("its own paper", office.fall(1), 1);
        Due.is("another paper of the lemma's fact", office.paper(Due.fact("o213"), 2), 2);
        Due.is("it would stand by another way", office.fall(0), 0);
        Due.is("not without its own", office.fall(1), 1);
        office.shown(0, true);
        Due.is("it does", office.stand(0, 7), 2);
        Due.is("and would fall with that", office.fall(2), 1);
    }

    /** "PAPERS on which one of them LEANS and not the other": LEANS is of no DAY, and on FALSE ones too. */
    private static void partedByEndsThatLack() {
        DeedProofs office = new DeedProofs();
        Due.rule(office, "o(a,b,c)>o(c,b,a)");
        office.paper(Due.fact("o123"), 0);
        office.paper(Due.fact("o420"), 0);
        office.proof(Offices.LINE);
        office.proof(Offices.CUT);
        office.proof(Offices.LINE);
        Offices.step(office, 0, 0, "1230", 0);
        Offices.step(office, 1, 0, "3210", 200);
        Offices.step(office, 2, 0, "4200", 1);
        office.title(1);
        office.title(2);
        office.shown(0, true);
        Due.is("by an end that isn't taken", office.clash(0, 1), 3);
        Due.change(office, 0, 5, "o(a,b,c)&a=4>o(c,b,a)");
        office.day(5);
        Due.is("on a later day", office.clash(1, 0), 3);
    }
}
