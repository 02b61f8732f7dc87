/** The edges of promises 16 to 19: felt, forget, ups, ask. */
final class TrailsEdges extends Edges {
    private static final int[] ALL_UPS = {0, 1, 10, 11, 20, 21, 30, 31, 40, 41, 50, 51};

    TrailsEdges(Check check, Document document) {
        super(check, document);
    }

    @Override
    void all() {
        promise16HowMany();
        promise16WetOrDry();
        promise16Unknown();
        promise16Full();
        promise17SightsGo();
        promise18HowManyFit();
        promise18TheIth();
        promise18FromTheGround();
        promise18AsTheyAreNow();
        promise18FarAndNear();
        promise18HeStoodThere();
        promise19WhichAndHowMany();
        promise19NothingFits();
        promise19Outside();
    }

    private void dueUps(Sentence s, RungRights x, int... codes) {
        s.due("ups(-1)", x.ups(-1), codes.length);
        for (int i = 0; i < codes.length; i++) {
            s.due("ups(" + i + ")", x.ups(i), codes[i]);
        }
        s.due("ups(" + codes.length + ")", x.ups(codes.length), NONE);
    }

    private void dueAsk(Sentence s, RungRights x, int rung, int left) {
        s.due("ask(0)", x.ask(0), rung);
        s.due("ask(1)", x.ask(1), left);
    }

    private static void strides(RungRights x, int... strides) {
        for (int man = 0; man < MEN; man++) {
            x.man(man, strides[man], 5, 0);
        }
    }

    private void promise16HowMany() {
        Sentence s = says(16, "A SIGHT more: how many.");
        RungRights x = new RungRights();
        s.due("none at first", x.told(5), 0);
        for (int i = 1; i <= 8; i++) {
            s.due("SIGHT " + i, x.felt(i % 2 == 0 ? 1 : RUNGS, i > 2), i);
            s.due("told(5)", x.told(5), i);
        }
        s.due("one more than 8", x.felt(1, true), FULL);
        RungRights same = new RungRights();
        s.due("a RUNG", same.felt(6, true), 1);
        s.due("the same one again is a SIGHT more", same.felt(6, true), 2);
        s.due("and otherwise too", same.felt(6, false), 3);
    }

    private void promise16WetOrDry() {
        Sentence s = says(16, "SIGHTS, 8 at most: a RUNG was wet (he had set foot on it), or dry.");
        for (int rung = 1; rung <= RUNGS; rung++) {
            RungRights wet = new RungRights();
            strides(wet, 1, 2, 2, 2, 2, 2);
            wet.felt(rung, true);
            RungRights dry = new RungRights();
            strides(dry, 1, 2, 2, 2, 2, 2);
            dry.felt(rung, false);
            boolean even = rung % 2 == 0;
            s.due("RUNG " + rung + " wet: all, or all but those who go by twos", wet.ups(-1), even ? 12 : 7);
            s.due("RUNG " + rung + " dry", dry.ups(-1), even ? 0 : 5);
            wet.felt(rung, false);
            s.due("both at once", wet.ups(-1), 0);
        }
    }

    private void promise16Unknown() {
        Sentence s = says(16, "UNKNOWN: 1 to 12");
        s.refusesBeyond(1, RUNGS, "felt(#, true)", UNKNOWN, (x, n) -> x.felt(n, true));
        s.refusesBeyond(1, RUNGS, "felt(#, false)", UNKNOWN, (x, n) -> x.felt(n, false));
    }

    private void promise16Full() {
        Sentence s = says(16, "FULL.");
        s.refusesIn(Scene.BRIM, "felt(1, true)", FULL, x -> x.felt(1, true));
        s.refusesIn(Scene.BRIM, "felt(12, false)", FULL, x -> x.felt(RUNGS, false));
        RungRights x = Scene.BRIM.make();
        s.due("forget()", x.forget(), 8);
        s.due("there is room again", x.felt(1, true), 1);
        RungRights y = new RungRights();
        for (int i = 0; i < 8; i++) {
            y.felt(2, true);
        }
        y.felt(2, false);
        s.due("what was refused is no SIGHT", y.ups(-1), 12);
    }

    private void promise17SightsGo() {
        Sentence s = says(17, "SIGHTS go: how many there were.");
        RungRights x = new RungRights();
        s.due("of none", x.forget(), 0);
        x.felt(1, true);
        s.due("of one", x.forget(), 1);
        s.due("of none again", x.forget(), 0);
        s.due("told(5)", x.told(5), 0);
        dueUps(s, x, ALL_UPS);
        for (int i = 0; i < 8; i++) {
            x.felt(RUNGS, false);
        }
        s.due("of eight", x.forget(), 8);
        dueUps(s, x, ALL_UPS);
        RungRights rich = Scene.RICH.make();
        s.due("of three", rich.forget(), 3);
        rich.felt(3, true);
        rich.felt(12, false);
        rich.felt(1, true);
        s.holds("nothing but SIGHTS goes", Shown.of(rich).equals(Scene.RICH.shown()));
    }

    private void promise18HowManyFit() {
        Sentence s = says(18, "UPS: how many (i = -1), the i-th; NONE.");
        RungRights x = new RungRights();
        dueUps(s, x, ALL_UPS);
        x.felt(1, true);
        dueUps(s, x, 1, 11, 21, 31, 41, 51);
        x.felt(1, false);
        dueUps(s, x);
        s.changesNothing("ups(-1)", y -> y.ups(-1));
        s.changesNothing("ups(0)", y -> y.ups(0));
        s.changesNothing("ups(-2)", y -> y.ups(-2));
    }

    private void promise18TheIth() {
        Sentence s = says(18, "UPS: 10 times the MAN, and the manner, by which all SIGHTS are so (12 can be): how "
            + "many; the i-th (rising).");
        RungRights x = new RungRights();
        s.due("the first", x.ups(0), 0);
        s.due("the last", x.ups(11), 51);
        int[] beyond = {12, 13, 1000000, MOST, -2, -3, -1000000, LEAST};
        for (int i : beyond) {
            s.due("ups(" + i + ")", x.ups(i), NONE);
        }
        for (int man = 0; man < MEN; man++) {
            RungRights y = new RungRights();
            y.rung(RUNGS, man, -1, 0);
            y.felt(RUNGS, true);
            dueUps(s, y, 10 * man, 10 * man + 1);
            y.felt(1, false);
            dueUps(s, y, 10 * man);
        }
    }

    private void promise18FromTheGround() {
        Sentence s = says(18, "went up from the ground");
        RungRights x = new RungRights();
        for (int man = 0; man < MEN; man++) {
            x.man(man, 2, 0, man == 0 ? ROOF : 11);
        }
        x.felt(2, true);
        s.due("where they are now is no matter, nor who stands in the way", x.ups(-1), 12);
        doneWith(x, "B^C^D^E^F^");
        s.due("nor whether they have STEPPED", x.ups(-1), 12);
    }

    private void promise18AsTheyAreNow() {
        Sentence s = says(18, "One of the MEN (as RUNGS, STRIDES are now)");
        RungRights x = new RungRights();
        x.felt(4, true);
        x.felt(2, false);
        dueUps(s, x);
        x.man(3, 4, 5, 0);
        dueUps(s, x, 30);
        missing(x, 2, 2);
        dueUps(s, x, 1, 11, 21, 30, 31, 41, 51);
        Check.tell(x, "kdkckfkg");
        dueUps(s, x, 1, 11, 21, 30, 31, 41, 51);
        x.done();
        dueUps(s, x);
    }

    /** The trail of each manner with each stride, rung by rung, the roof being as far as one can go. */
    private void promise18FarAndNear() {
        Sentence s = says(18, "by a manner 0 (each time as far as he could), or 1 (each time as near as he could)");
        for (int stride = 1; stride <= 4; stride++) {
            for (int rung = 1; rung <= RUNGS; rung++) {
                RungRights x = new RungRights();
                strides(x, stride, stride, stride, stride, stride, stride);
                x.felt(rung, true);
                s.due("STRIDE " + stride + ", RUNG " + rung, x.ups(-1), rung % stride == 0 ? 12 : 6);
                s.due("the first of them", x.ups(0), rung % stride == 0 ? 0 : 1);
            }
        }
        RungRights top = new RungRights();
        strides(top, 4, 4, 4, 4, 4, 4);
        missing(top, 12, 12);
        top.felt(11, true);
        s.due("from 8 onto 11, the next being MISSING", top.ups(-1), 12);
        for (int stride = 2; stride <= 4; stride++) {
            RungRights past = new RungRights();
            strides(past, stride, stride, stride, stride, stride, stride);
            missing(past, stride, stride);
            past.felt(11, true);
            past.felt(12, false);
            dueUps(s, past, 0, 10, 20, 30, 40, 50);
        }
    }

    private void promise18HeStoodThere() {
        Sentence s = says(18, "if he could not go on, he stood there");
        RungRights x = new RungRights();
        missing(x, 1, 2);
        for (int rung = 1; rung <= 8; rung++) {
            x.felt(rung, false);
        }
        dueUps(s, x, ALL_UPS);
        x.forget();
        x.felt(3, true);
        dueUps(s, x);
        x.man(5, 3, 5, 0);
        dueUps(s, x, 50, 51);
        RungRights top = new RungRights();
        missing(top, 11, 12);
        top.felt(10, true);
        dueUps(s, top, ALL_UPS);
        top.felt(12, true);
        dueUps(s, top);
        RungRights middle = new RungRights();
        middle.rung(5, 1, -1, 0);
        middle.rung(6, 1, -1, 0);
        middle.felt(4, true);
        middle.felt(8, false);
        dueUps(s, middle, 0, 1, 20, 21, 30, 31, 40, 41, 50, 51);
    }

    private void promise19WhichAndHowMany() {
        Sentence s = says(19, "ASK: the RUNG to feel next, so that, whether or not, fewest of these are left at the "
            + "most: the least; how many.");
        Sentence whats = says(19, "ASK: the RUNG (what = 0), how many (1); NONE: nothing fits.");
        RungRights x = new RungRights();
        dueAsk(whats, x, 1, 6);
        strides(x, 1, 1, 1, 1, 1, 1);
        dueAsk(s, x, 1, 12);
        x.man(5, 2, 5, 0);
        dueAsk(s, x, 1, 11);
        x.felt(1, false);
        dueAsk(s, x, 1, 1);
        x.forget();
        missing(x, 1, RUNGS);
        dueAsk(s, x, 1, 12);
        RungRights last = new RungRights();
        last.rung(RUNGS, 0, -1, 0);
        strides(last, 1, 1, 1, 1, 1, 1);
        dueAsk(s, last, 12, 10);
        last.felt(12, true);
        dueAsk(s, last, 1, 2);
        for (int rung = 1; rung <= RUNGS; rung++) {
            RungRights one = new RungRights();
            one.rung(rung, 0, -1, 0);
            strides(one, 1, 1, 1, 1, 1, 1);
            dueAsk(s, one, rung, 10);
        }
        RungRights wet = new RungRights();
        wet.rung(RUNGS, 0, 1, 0);
        strides(wet, 1, 1, 1, 1, 1, 1);
        dueAsk(s, wet, 12, 8);
        wet.rung(11, 2, 3, 0);
        dueAsk(s, wet, 11, 8);
        wet.felt(11, false);
        dueAsk(s, wet, 1, 8);
        RungRights full = Scene.BRIM.make();
        s.due("also when no SIGHT more is taken", full.ask(0) == OUTSIDE ? 1 : 0, 0);
        s.changesNothing("ask(0)", y -> y.ask(0));
        s.changesNothing("ask(1)", y -> y.ask(1));
    }

    private void promise19NothingFits() {
        Sentence s = says(19, "NONE: nothing fits.");
        RungRights x = new RungRights();
        x.felt(1, true);
        x.felt(1, false);
        dueAsk(s, x, NONE, NONE);
        s.due("OUTSIDE all the same", x.ask(2), OUTSIDE);
        x.forget();
        dueAsk(s, x, 1, 6);
    }

    private void promise19Outside() {
        Sentence s = says(19, "OUTSIDE.");
        s.refusesBeyond(0, 1, "ask(#)", OUTSIDE, (x, n) -> x.ask(n));
    }
}
