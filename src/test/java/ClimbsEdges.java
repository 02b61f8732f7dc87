import java.util.List;

/** The edges of promises 12 to 15: climb, ways, leases, stand. */
final class ClimbsEdges extends Edges {
    ClimbsEdges(Check check, Document document) {
        super(check, document);
    }

    @Override
    void all() {
        asThingsAreNow();
        eachIsAnsweredAlone();
        promise12FewestAndMost();
        promise12TheFirstStep();
        promise12None();
        promise12Refused();
        promise13FewestAndMost();
        promise13Unknown();
        promise14FewestAndMost();
        promise14WhichCanBeLeased();
        promise14LeastAsBits();
        promise14None();
        promise14Refused();
        promise15FewestAndMost();
        promise15InWhichOrder();
        promise15OneOnEach();
        promise15Unknown();
    }

    private void dueClimb(Sentence s, RungRights x, int man, int steps, int first) {
        s.due("climb(" + man + ", 0)", x.climb(man, 0), steps);
        s.due("climb(" + man + ", 1)", x.climb(man, 1), first);
    }

    private void dueLeases(Sentence s, RungRights x, int man, int count, int which) {
        s.due("leases(" + man + ", 0)", x.leases(man, 0), count);
        s.due("leases(" + man + ", 1)", x.leases(man, 1), which);
    }

    /** Others in the way, that he has STEPPED, beat 99, and what only stands on the pad are all no matter. */
    private void asThingsAreNow() {
        Sentence s = says(12, "(As things are now, nobody being in the way, all steps at once.)");
        RungRights x = atBeat(99);
        x.man(0, 1, 0, 8);
        doneWith(x, "Ag");
        for (int man = 1; man < MEN; man++) {
            x.man(man, 1, 5, 7 + man);
        }
        s.due("he has STEPPED", x.told(3), 1);
        dueClimb(s, x, 0, 6, 8);
        s.due("ways(0)", x.ways(0), 1);
        dueLeases(s, x, 0, 0, 0);
        Check.tell(x, "khki");
        dueClimb(s, x, 0, 6, 8);
        s.due("ways(0)", x.ways(0), 1);
        dueLeases(s, x, 0, 0, 0);
        s.due("stand(-1)", x.stand(-1), 6);
        x.done();
        dueClimb(s, x, 0, NONE, NONE);
        s.due("ways(0)", x.ways(0), 0);
        dueLeases(s, x, 0, NONE, NONE);
    }

    /** Whatever was asked ahead of it, a question is answered as on an object that was asked nothing. */
    private void eachIsAnsweredAlone() {
        Sentence s = says(12, "(As things are now, nobody being in the way, all steps at once.)");
        List<Sentence.Call> asked = List.of(x -> x.climb(0, 0), x -> x.climb(0, 1), x -> x.climb(2, 1), x -> x.climb(3, 0),
            x -> x.ways(0), x -> x.ways(2), x -> x.ways(3), x -> x.leases(0, 0), x -> x.leases(1, 1), x -> x.leases(2, 0),
            x -> x.stand(-1), x -> x.stand(0), x -> x.stand(5), x -> x.ups(-1), x -> x.ups(0), x -> x.ask(0), x -> x.ask(1),
            x -> x.down(4094, 0), x -> x.down(1365, 1), x -> x.foot(4, 12, 0, 0), x -> x.foot(3, 5, 1, 1),
            x -> x.foot(2, 7, 1, 0), x -> x.year(1, 99, 0), x -> x.year(77, 50, 1), x -> x.year(9999, 99, 2),
            x -> x.judge(0), x -> x.judge(1), x -> x.behind(1, 0), x -> x.behind(2, 1), x -> x.bears(9, 1), x -> x.then(2),
            x -> x.then(3), x -> x.then(4), x -> x.told(11), RungRights::fault);
        for (Scene scene : Scene.values()) {
            for (int first = 0; first < asked.size(); first++) {
                for (int second = 0; second < asked.size(); second++) {
                    RungRights x = scene.make();
                    asked.get(first).on(x);
                    long alone = asked.get(second).on(scene.make());
                    s.due(scene + " question " + second + " behind question " + first, asked.get(second).on(x), alone);
                }
            }
        }
    }

    private void promise12FewestAndMost() {
        Sentence s = says(12, "CLIMB of a MAN from where he is to the roof: the fewest steps; onto which place the "
            + "first one goes, the least (NONE: he is there); NONE.");
        for (int stride = 1; stride <= 4; stride++) {
            for (int place = 0; place <= ROOF; place++) {
                RungRights x = standing(3, stride, place);
                int steps = (ROOF - place + stride - 1) / stride;
                int first = steps == 0 ? NONE : Math.max(place + 1, ROOF - stride * (steps - 1));
                dueClimb(s, x, 3, steps, first);
            }
        }
    }

    private void promise12TheFirstStep() {
        Sentence s = says(12, "onto which place the first one goes, the least (NONE: he is there)");
        dueClimb(s, standing(0, 4, ROOF), 0, 0, NONE);
        dueClimb(s, standing(5, 1, RUNGS), 5, 1, ROOF);
        dueClimb(s, standing(5, 4, 9), 5, 1, ROOF);
        dueClimb(s, standing(5, 4, 8), 5, 2, 9);
        RungRights x = standing(5, 4, 8);
        missing(x, 9, 10);
        dueClimb(s, x, 5, 2, 11);
        missing(x, 11, 12);
        dueClimb(s, x, 5, NONE, NONE);
        RungRights all = new RungRights();
        missing(all, 1, RUNGS);
        all.man(0, 4, 5, ROOF);
        dueClimb(s, all, 0, 0, NONE);
        all.man(0, 4, 5, 9);
        dueClimb(s, all, 0, 1, ROOF);
    }

    /** A gap of as many RUNGS as his STRIDE keeps him, one fewer does not: at the foot, in the middle, at the top. */
    private void promise12None() {
        Sentence s = says(12, "CLIMB: steps (what = 0), the place (1); NONE.");
        for (int stride = 1; stride <= 4; stride++) {
            for (int lowest = 1; lowest + stride - 1 <= RUNGS; lowest++) {
                RungRights gap = standing(2, stride, 0);
                missing(gap, lowest, lowest + stride - 1);
                dueClimb(s, gap, 2, NONE, NONE);
                gap.man(2, stride, 5, lowest);
                s.holds("from inside the gap he comes up", gap.climb(2, 0) > 0);
                RungRights less = standing(2, stride, 0);
                missing(less, lowest, lowest + stride - 2);
                s.holds("a smaller gap is none", less.climb(2, 0) > 0);
            }
        }
        RungRights others = standing(2, 1, 0);
        others.rung(1, 0, 1, 0);
        dueClimb(s, others, 2, NONE, NONE);
        others.rung(1, 0, 2, 0);
        dueClimb(s, others, 2, 13, 1);
        others.rung(1, 2, 0, 0);
        dueClimb(s, others, 2, 13, 1);
    }

    private void promise12Refused() {
        Sentence unknown = says(12, "UNKNOWN");
        unknown.refusesBeyond(0, 5, "climb(#, 0)", UNKNOWN, (x, n) -> x.climb(n, 0));
        unknown.refusesBeyond(0, 5, "climb(#, 1)", UNKNOWN, (x, n) -> x.climb(n, 1));
        Sentence outside = says(12, "OUTSIDE");
        outside.refusesBeyond(0, 1, "climb(0, #)", OUTSIDE, (x, n) -> x.climb(0, n));
        outside.refusesBeyond(0, 1, "climb(5, #)", OUTSIDE, (x, n) -> x.climb(5, n));
        outside.changesNothing("climb(0, 0)", x -> x.climb(0, 0));
        outside.changesNothing("climb(5, 1)", x -> x.climb(5, 1));
    }

    private void promise13FewestAndMost() {
        Sentence s = says(13, "WAYS: in how many rows of steps, each one up, he comes from where he is to the roof.");
        int[] most = {1, 377, 1705, 2872};
        for (int stride = 1; stride <= 4; stride++) {
            s.due("from the ground by " + stride, standing(0, stride, 0).ways(0), most[stride - 1]);
            s.due("from the last RUNG by " + stride, standing(5, stride, RUNGS).ways(5), 1);
            s.due("on the roof: the row without a step", standing(5, stride, ROOF).ways(5), 1);
            RungRights gap = standing(0, stride, 0);
            missing(gap, 1, stride);
            s.due("behind a gap at the foot", gap.ways(0), 0);
            RungRights top = standing(0, stride, 0);
            missing(top, ROOF - stride, RUNGS);
            s.due("behind a gap at the top", top.ways(0), 0);
        }
        RungRights x = standing(0, 4, 9);
        s.due("from 9 by 4", x.ways(0), 8);
        missing(x, 10, 12);
        s.due("over three in one step", x.ways(0), 1);
        x.rung(11, 0, -1, 0);
        s.due("by his own one too", x.ways(0), 2);
        x.rung(11, 1, 0, 0);
        s.due("by one LEASED to him too", x.ways(0), 2);
        x.rung(11, 1, -1, 0);
        s.due("by another's not", x.ways(0), 1);
    }

    private void promise13Unknown() {
        Sentence s = says(13, "WAYS. UNKNOWN.");
        s.refusesBeyond(0, 5, "ways(#)", UNKNOWN, (x, n) -> x.ways(n));
        s.changesNothing("ways(0)", x -> x.ways(0));
    }

    private void promise14FewestAndMost() {
        Sentence s = says(14, "LEASES: how many (what = 0), which (1); NONE.");
        dueLeases(s, new RungRights(), 0, 0, 0);
        RungRights x = standing(5, 1, 0);
        owned(x, 0, 1, RUNGS);
        dueLeases(s, x, 5, 12, 4095);
        x.man(5, 1, 0, 0);
        dueLeases(s, x, 5, 12, 4095);
        x.man(5, 1, 0, RUNGS);
        dueLeases(s, x, 5, 0, 0);
        x.man(5, 1, 0, ROOF);
        dueLeases(s, x, 5, 0, 0);
        x.man(5, 1, 0, 11);
        dueLeases(s, x, 5, 1, 2048);
        x.man(5, 4, 0, 9);
        dueLeases(s, x, 5, 0, 0);
        x.man(5, 4, 0, 8);
        dueLeases(s, x, 5, 1, 256);
        dueLeases(s, x, 0, 0, 0);
    }

    private void promise14WhichCanBeLeased() {
        Sentence s = says(14, "LEASES of a MAN: the fewest RUNGS more that must be LEASED to him (any that are "
            + "there, and that are neither nobody's nor LEASED, COINS being no matter) so that he can come from "
            + "where he is to the roof: how many; which, least as bits of as few; NONE.");
        RungRights x = standing(0, 1, 11);
        x.man(0, 1, 0, 11);
        x.rung(12, 1, -1, 0);
        dueLeases(s, x, 0, 1, 2048);
        x.rung(12, 1, 2, 0);
        dueLeases(s, x, 0, NONE, NONE);
        x.rung(12, 1, 0, 0);
        dueLeases(s, x, 0, 0, 0);
        x.rung(12, 0, 1, 0);
        dueLeases(s, x, 0, 0, 0);
        x.rung(12, -1, -1, 0);
        dueLeases(s, x, 0, 0, 0);
        missing(x, 12, 12);
        dueLeases(s, x, 0, NONE, NONE);
        s.changesNothing("leases(0, 0)", y -> y.leases(0, 0));
        s.changesNothing("leases(0, 1)", y -> y.leases(0, 1));
    }

    private void promise14LeastAsBits() {
        Sentence s = says(14, "which, least as bits of as few");
        RungRights x = standing(0, 2, 10);
        x.rung(11, 1, -1, 0);
        x.rung(12, 1, -1, 0);
        dueLeases(s, x, 0, 1, 1024);
        x.rung(11, 1, 3, 0);
        dueLeases(s, x, 0, 1, 2048);
        RungRights y = standing(0, 4, 0);
        owned(y, 1, 1, RUNGS);
        dueLeases(s, y, 0, 3, 1 + 16 + 256);
        y.rung(1, 1, 2, 0);
        dueLeases(s, y, 0, 3, 2 + 16 + 256);
        y.rung(4, 1, 0, 0);
        dueLeases(s, y, 0, 2, 16 + 256);
        y.rung(9, -1, -1, 0);
        dueLeases(s, y, 0, 1, 16);
        y.rung(8, 0, -1, 0);
        dueLeases(s, y, 0, 0, 0);
        RungRights few = standing(0, 2, 0);
        owned(few, 1, 1, RUNGS);
        few.rung(11, -1, -1, 0);
        few.rung(9, -1, -1, 0);
        few.rung(7, -1, -1, 0);
        few.rung(4, -1, -1, 0);
        few.rung(6, -1, -1, 0);
        dueLeases(s, few, 0, 1, 2);
    }

    private void promise14None() {
        Sentence s = says(14, "LEASES: how many (what = 0), which (1); NONE.");
        for (int stride = 1; stride <= 4; stride++) {
            RungRights x = standing(4, stride, 0);
            owned(x, 0, 1, RUNGS);
            missing(x, 5, 5 + stride - 1);
            dueLeases(s, x, 4, NONE, NONE);
            x.rung(5, 0, 1, 0);
            dueLeases(s, x, 4, NONE, NONE);
            x.rung(5, 0, -1, 0);
            s.holds("with one of them there he can", x.leases(4, 0) > 0);
        }
    }

    private void promise14Refused() {
        Sentence unknown = says(14, "UNKNOWN");
        unknown.refusesBeyond(0, 5, "leases(#, 0)", UNKNOWN, (x, n) -> x.leases(n, 0));
        unknown.refusesBeyond(0, 5, "leases(#, 1)", UNKNOWN, (x, n) -> x.leases(n, 1));
        Sentence outside = says(14, "OUTSIDE");
        outside.refusesBeyond(0, 1, "leases(0, #)", OUTSIDE, (x, n) -> x.leases(0, n));
        outside.refusesBeyond(0, 1, "leases(5, #)", OUTSIDE, (x, n) -> x.leases(5, n));
    }

    private void dueStand(Sentence s, RungRights x, int count, int... rungs) {
        s.due("stand(-1)", x.stand(-1), count);
        for (int man = 0; man < MEN; man++) {
            s.due("stand(" + man + ")", x.stand(man), rungs[man]);
        }
    }

    private void promise15FewestAndMost() {
        Sentence s = says(15, "STAND: how many (man = -1), the RUNG of a MAN; NONE.");
        dueStand(s, new RungRights(), 6, 1, 2, 3, 4, 5, 6);
        RungRights x = new RungRights();
        missing(x, 1, RUNGS);
        dueStand(s, x, 0, NONE, NONE, NONE, NONE, NONE, NONE);
        x.rung(12, -1, -1, 0);
        dueStand(s, x, 1, 12, NONE, NONE, NONE, NONE, NONE);
        x.rung(12, 5, -1, 0);
        dueStand(s, x, 1, NONE, NONE, NONE, NONE, NONE, 12);
        owned(x, 3, 1, RUNGS);
        dueStand(s, x, 1, NONE, NONE, NONE, 1, NONE, NONE);
        RungRights y = new RungRights();
        missing(y, 1, 6);
        dueStand(s, y, 6, 7, 8, 9, 10, 11, 12);
        missing(y, 7, 7);
        dueStand(s, y, 5, 8, 9, 10, 11, 12, NONE);
        y.man(0, 1, 0, ROOF);
        dueStand(s, y, 5, 8, 9, 10, 11, 12, NONE);
    }

    private void promise15InWhichOrder() {
        Sentence s = says(15, "the RUNG of a MAN by that, as his number the first, RUNGS by number, none last (NONE)");
        RungRights x = new RungRights();
        missing(x, 1, RUNGS);
        x.rung(1, 5, 0, 0);
        x.rung(2, 5, -1, 0);
        dueStand(s, x, 2, 1, NONE, NONE, NONE, NONE, 2);
        x.rung(2, 0, -1, 0);
        dueStand(s, x, 2, 2, NONE, NONE, NONE, NONE, 1);
        x.rung(3, 0, -1, 0);
        dueStand(s, x, 2, 2, NONE, NONE, NONE, NONE, 1);
        x.rung(2, 1, 0, 0);
        dueStand(s, x, 3, 3, 2, NONE, NONE, NONE, 1);
        x.rung(3, -1, -1, 1);
        dueStand(s, x, 2, 1, 2, NONE, NONE, NONE, NONE);
        RungRights last = new RungRights();
        missing(last, 1, RUNGS);
        last.rung(4, 5, 4, 0);
        dueStand(s, last, 1, NONE, NONE, NONE, NONE, 4, NONE);
    }

    private void promise15OneOnEach() {
        Sentence s = says(15, "STAND: how many MEN can stand on RUNGS at once, each on one on which he MAY be, on "
            + "each one at most");
        RungRights x = new RungRights();
        for (int man = 0; man < MEN; man++) {
            x.rung(RUNGS - man, man, -1, 0);
        }
        missing(x, 1, 6);
        dueStand(s, x, 6, 12, 11, 10, 9, 8, 7);
        x.rung(12, 5, -1, 0);
        dueStand(s, x, 5, NONE, 11, 10, 9, 8, 7);
        for (int man = 0; man < MEN; man++) {
            x.man(man, 1, 5, 12);
        }
        dueStand(s, x, 5, NONE, 11, 10, 9, 8, 7);
        doneWith(x, "A%l");
        dueStand(s, x, 6, 12, 11, 10, 9, 8, 7);
    }

    private void promise15Unknown() {
        Sentence s = says(15, "UNKNOWN: -1 to 5.");
        s.refusesBeyond(-1, 5, "stand(#)", UNKNOWN, (x, n) -> x.stand(n));
        s.changesNothing("stand(-1)", x -> x.stand(-1));
        s.changesNothing("stand(5)", x -> x.stand(5));
    }
}
