/** The document's head, its constants, and what its terms say of every call. */
final class TermsEdges extends Edges {
    TermsEdges(Check check, Document document) {
        super(check, document);
    }

    @Override
    void all() {
        constants();
        the512thCall();
        unknownIsFirst();
        outsideIsAheadOfNo();
        outsideIsAheadOfState();
        outsideIsAheadOfFull();
        unknownIsAheadOfFull();
        refusalsChangeNothing();
        aRefusedTextStandsWhole();
        setsAreBits();
    }

    private void constants() {
        Sentence s = says(1, "NONE = -6, UNKNOWN = -1, OUTSIDE = -2, STATE = -3, FULL = -4, NO = -5; "
            + "LOST = -1000000000000000000L;");
        int[] told = {NONE, UNKNOWN, OUTSIDE, STATE, FULL, NO};
        int[] due = {-6, -1, -2, -3, -4, -5};
        for (int i = 0; i < due.length; i++) {
            s.due("constant " + i, told[i], due[i]);
        }
        s.due("LOST", LOST, -1000000000000000000L);
    }

    private void the512thCall() {
        Sentence s = says(1, "An object is used for at most 512 calls after it has been made; what later calls "
            + "answer is free.");
        RungRights x = new RungRights();
        for (int i = 1; i <= 510; i++) {
            s.due("call " + i, x.man(3, 1 + i % 4, i % 100, i % 14), i == 1 ? 5 : (i - 1) % 14 * 100 + (i - 1) % 100);
        }
        s.due("call 511", x.told(13), 510 % 14);
        s.due("call 512", x.told(23), 510 % 100);
    }

    /** In every scene: also where the pad makes for a NO, and where pad and sights are full. */
    private void unknownIsFirst() {
        Sentence s = says(2, "Calls that are refused answer, the first of these that fits: UNKNOWN -1 (there is no "
            + "such RUNG, MAN, by number)");
        s.refuses("rung(0, 0, 0, 2)", UNKNOWN, x -> x.rung(0, 0, 0, 2));
        s.refuses("rung(1, 6, -1, 2)", UNKNOWN, x -> x.rung(1, 6, -1, 2));
        s.refuses("rung(1, -1, 6, 2)", UNKNOWN, x -> x.rung(1, -1, 6, 2));
        s.refuses("rung(1, 6, 6, 0)", UNKNOWN, x -> x.rung(1, 6, 6, 0));
        s.refuses("rung(1, 6, -1, 1)", UNKNOWN, x -> x.rung(1, 6, -1, 1));
        s.refuses("man(6, 0, 0, 0)", UNKNOWN, x -> x.man(6, 0, 0, 0));
        s.refuses("man(-1, 1, 100, 0)", UNKNOWN, x -> x.man(-1, 1, 100, 0));
        s.refuses("man(6, 1, 0, 14)", UNKNOWN, x -> x.man(6, 1, 0, 14));
        s.refuses("behind(6, 4)", UNKNOWN, x -> x.behind(6, 4));
        s.refuses("behind(-1, 0)", UNKNOWN, x -> x.behind(-1, 0));
        s.refuses("bears(13, 4)", UNKNOWN, x -> x.bears(13, 4));
        s.refuses("bears(0, 0)", UNKNOWN, x -> x.bears(0, 0));
        s.refuses("climb(6, 2)", UNKNOWN, x -> x.climb(6, 2));
        s.refuses("leases(-1, 2)", UNKNOWN, x -> x.leases(-1, 2));
        s.refuses("foot(0, 13, 2, 2)", LOST + UNKNOWN, x -> x.foot(0, 13, 2, 2));
    }

    private void outsideIsAheadOfNo() {
        Sentence s = says(7, "OUTSIDE -2 (another number is not as told), NO -5 (as told)");
        for (Scene scene : new Scene[] {Scene.FAULTY, Scene.STUCK}) {
            s.refusesIn(scene, "judge(2)", OUTSIDE, x -> x.judge(2));
            s.refusesIn(scene, "behind(0, 4)", OUTSIDE, x -> x.behind(0, 4));
            s.refusesIn(scene, "bears(1, 4)", OUTSIDE, x -> x.bears(1, 4));
            s.refusesIn(scene, "then(6)", OUTSIDE, x -> x.then(6));
        }
    }

    private void outsideIsAheadOfState() {
        Sentence s = says(24, "STATE -3 (as told)");
        s.refusesIn(Scene.FRESH, "restore(2), nothing being kept", OUTSIDE, x -> x.restore(2));
        s.refusesIn(Scene.FRESH, "restore(-1), nothing being kept", OUTSIDE, x -> x.restore(-1));
        s.refusesIn(Scene.FRESH, "restore(0)", STATE, x -> x.restore(0));
        s.refusesIn(Scene.FRESH, "restore(1)", STATE, x -> x.restore(1));
    }

    private void outsideIsAheadOfFull() {
        Sentence s = says(4, "FULL -4");
        s.refusesIn(Scene.BRIM, "say(32)", OUTSIDE, x -> x.say(32));
        s.refusesIn(Scene.BRIM, "say(127)", OUTSIDE, x -> x.say(127));
        s.refusesIn(Scene.BRIM, "say('.')", FULL, x -> x.say('.'));
    }

    private void unknownIsAheadOfFull() {
        Sentence s = says(16, "FULL -4");
        s.refusesIn(Scene.BRIM, "felt(0, true)", UNKNOWN, x -> x.felt(0, true));
        s.refusesIn(Scene.BRIM, "felt(13, false)", UNKNOWN, x -> x.felt(13, false));
        s.refusesIn(Scene.BRIM, "felt(1, true)", FULL, x -> x.felt(1, true));
    }

    /** One of each refusal that there is; the tests of the promises look so at every other one. */
    private void refusalsChangeNothing() {
        Sentence s = says(8, "They change nothing.");
        s.refusesIn(Scene.FAULTY, "done()", NO, RungRights::done);
        s.refusesIn(Scene.STUCK, "done()", NO, RungRights::done);
        for (Scene scene : new Scene[] {Scene.FAULTY, Scene.STUCK}) {
            s.refusesIn(scene, "behind(0, 0)", NO, x -> x.behind(0, 0));
            s.refusesIn(scene, "bears(1, 0)", NO, x -> x.bears(1, 0));
            s.refusesIn(scene, "then(0)", NO, x -> x.then(0));
        }
        s.refusesIn(Scene.FAULTY, "judge(0)", NO, x -> x.judge(0));
        s.refusesIn(Scene.FAULTY, "judge(1)", NO, x -> x.judge(1));
    }

    /** The signs of a text that is refused are still there, each of them: it can be mended and done. */
    private void aRefusedTextStandsWhole() {
        Sentence s = says(8, "They change nothing.");
        RungRights x = told("AaB");
        s.due("done() of AaB", x.done(), NO);
        x.say('b');
        s.due("done() of AaBb", x.done(), 2);
        s.due("A is on a", x.told(10), 1);
        s.due("B is on b", x.told(11), 2);
        RungRights y = told("..+cAb");
        s.due("done() of ..+cAb, c being there", y.done(), NO);
        s.due("no beat of it is done", y.told(1), 0);
        y.rung(3, -1, -1, 1);
        s.due("done() of it, c being missing", y.done(), 4);
        s.due("two beats", y.told(1), 2);
        s.due("A is on b", y.told(10), 2);
        s.due("c is there", y.told(4), 0);
    }

    private void setsAreBits() {
        Sentence s = says(25, "Sets are bits.");
        for (int man = 0; man < MEN; man++) {
            RungRights x = new RungRights();
            x.man(man, 1, 5, ROOF);
            s.due("MAN " + man + " on the roof", x.told(2), 1 << man);
        }
        for (int rung = 1; rung <= RUNGS; rung++) {
            RungRights x = new RungRights();
            missing(x, rung, rung);
            s.due("RUNG " + rung + " missing", x.told(4), 1 << (rung - 1));
        }
    }
}
