import java.util.List;

/** The edges of promises 23 to 25: image, restore, told. */
final class ImagesEdges extends Edges {
    ImagesEdges(Check check, Document document) {
        super(check, document);
    }

    @Override
    void all() {
        promise23Kept();
        promise23AllButThePad();
        promise23EachPart();
        promise23Outside();
        promise24AsItWas();
        promise24Outside();
        promise24State();
        promise25OfAll();
        promise25OfMen();
        promise25OfRungs();
        promise25Outside();
        promise25Pure();
    }

    private void promise23Kept() {
        Sentence s = says(23, "is kept in an IMAGE (0, 1): 1.");
        for (int n = 0; n <= 1; n++) {
            RungRights x = new RungRights();
            s.due("image(" + n + ")", x.image(n), 1);
            s.due("the other one is not kept", x.restore(1 - n), STATE);
            s.due("restore(" + n + ")", x.restore(n), 1);
            x.man(0, 1, 1, 1);
            s.due("image(" + n + ") again", x.image(n), 1);
            x.man(0, 1, 1, 2);
            x.restore(n);
            s.due("it is kept anew", x.told(10), 1);
            s.due("the other one is still not kept", x.restore(1 - n), STATE);
        }
    }

    private void promise23AllButThePad() {
        Sentence s = says(23, "All but the PAD is kept in an IMAGE (0, 1): 1.");
        RungRights x = told("Aa");
        x.image(0);
        s.due("image leaves the PAD", x.told(0), 2);
        x.wipe();
        x.restore(0);
        s.due("the PAD is not restored", x.told(0), 0);
        Check.tell(x, "BbC");
        x.restore(0);
        s.due("signs stay", x.told(0), 3);
        s.due("and are the same", x.fault(), 3);
        x.say('a');
        s.due("they can be done", x.done(), 2);
        s.due("B is on b", x.told(11), 2);
        s.due("C is on a", x.told(12), 1);
        RungRights full = told(".".repeat(60));
        full.image(1);
        full.restore(1);
        s.due("a full PAD stays full", full.say('.'), FULL);
    }

    /** One part after the other is made other than it was kept, and comes back. */
    private void promise23EachPart() {
        Sentence s = says(23, "All but the PAD is kept in an IMAGE (0, 1): 1.");
        List<Sentence.Call> changes = List.of(x -> x.rung(2, 3, 2, 0), x -> x.rung(2, 1, -1, 0), x -> x.rung(2, -1, -1, 1),
            x -> x.rung(7, -1, -1, 0), x -> x.man(2, 1, 7, 10), x -> x.man(2, 3, 8, 10), x -> x.man(2, 3, 7, 11),
            x -> x.man(4, 3, 6, 8), x -> x.felt(5, true), x -> x.felt(5, false), RungRights::forget);
        for (int n = 0; n <= 1; n++) {
            for (int i = 0; i < changes.size(); i++) {
                RungRights x = Scene.FAULTY.make();
                x.image(n);
                changes.get(i).on(x);
                x.restore(n);
                RungRights same = Scene.FAULTY.make();
                same.image(n);
                s.holds("change " + i + " is gone by restore(" + n + ")", Shown.of(x).equals(Shown.of(same)));
            }
            RungRights beat = new RungRights();
            beat.image(n);
            doneWith(beat, "Aa.");
            beat.restore(n);
            s.due("the beat comes back", beat.told(1), 0);
            doneWith(beat, "Aa");
            beat.image(n);
            doneWith(beat, ".");
            beat.restore(n);
            s.due("who has STEPPED comes back", beat.told(3), 1);
        }
    }

    private void promise23Outside() {
        Sentence s = says(23, "OUTSIDE.");
        s.refusesBeyond(0, 1, "image(#)", OUTSIDE, (x, n) -> x.image(n));
    }

    private void promise24AsItWas() {
        Sentence s = says(24, "It is as it was when it was kept: 1.");
        RungRights x = new RungRights();
        x.man(0, 3, 7, 5);
        x.image(0);
        x.man(0, 4, 8, 6);
        x.image(1);
        x.man(0, 1, 0, 0);
        s.due("restore(0)", x.restore(0), 1);
        s.due("as 0 was", x.told(10), 5);
        s.due("restore(1)", x.restore(1), 1);
        s.due("as 1 was", x.told(10), 6);
        s.due("restore(0) again", x.restore(0), 1);
        s.due("0 is as it was", x.told(10), 5);
        x.man(0, 1, 0, 0);
        s.due("restore(0) behind a change", x.restore(0), 1);
        s.due("what came behind it did not change it", x.told(10), 5);
        s.due("COINS", x.told(20), 7);
        s.due("STRIDE", x.told(30), 3);
        x.image(1);
        x.man(0, 1, 0, 0);
        x.restore(1);
        s.due("what was restored can be kept", x.told(10), 5);
        x.rung(1, 0, -1, 0);
        doneWith(x, "ka");
        x.restore(0);
        s.due("a fire behind it did not change it", x.told(4), 0);
        x.year(1, 99, 0);
        x.restore(0);
        s.due("nor did a year", x.told(10), 5);
    }

    private void promise24Outside() {
        Sentence s = says(24, "OUTSIDE");
        s.refusesBeyond(0, 1, "restore(#)", OUTSIDE, (x, n) -> x.restore(n));
    }

    private void promise24State() {
        Sentence s = says(24, "STATE: it was not.");
        s.refusesIn(Scene.FRESH, "restore(0)", STATE, x -> x.restore(0));
        s.refusesIn(Scene.FRESH, "restore(1)", STATE, x -> x.restore(1));
        RungRights x = new RungRights();
        x.man(0, 1, 1, 1);
        s.due("restore(0)", x.restore(0), STATE);
        s.due("nothing changed", x.told(10), 1);
        x.image(1);
        s.due("restore(0), 1 being kept", x.restore(0), STATE);
        x.image(0);
        s.due("restore(0), it being kept", x.restore(0), 1);
    }

    private void promise25OfAll() {
        Sentence s = says(25, "0 signs, 1 the beat, 2 those on the roof (bits), 3 those who have STEPPED (bits), 4 "
            + "MISSING RUNGS (bits, 0 the RUNG 1), 5 SIGHTS");
        RungRights x = new RungRights();
        for (int what = 0; what <= 5; what++) {
            s.due("told(" + what + ") at first", x.told(what), 0);
        }
        RungRights most = atBeat(99);
        for (int man = 0; man < MEN; man++) {
            most.man(man, 1, 5, 12);
        }
        doneWith(most, "A^B^C^D^E^F^");
        missing(most, 1, RUNGS);
        for (int i = 0; i < 8; i++) {
            most.felt(1 + i, true);
        }
        Check.tell(most, "z".repeat(60));
        int[] greatest = {60, 99, 63, 63, 4095, 8};
        for (int what = 0; what <= 5; what++) {
            s.due("told(" + what + ") at the most", most.told(what), greatest[what]);
        }
        s.due("bit 0 is the RUNG 1", missingOne(1).told(4), 1);
        s.due("bit 11 is the RUNG 12", missingOne(12).told(4), 2048);
    }

    private static RungRights missingOne(int rung) {
        RungRights x = new RungRights();
        missing(x, rung, rung);
        return x;
    }

    private void promise25OfMen() {
        Sentence s = says(25, "10 and a MAN: the place; 20: COINS; 30: STRIDE");
        RungRights x = new RungRights();
        for (int man = 0; man < MEN; man++) {
            x.man(man, 1 + man % 4, 90 + man, 8 + man);
        }
        for (int man = 0; man < MEN; man++) {
            s.due("the place of " + man, x.told(10 + man), 8 + man);
            s.due("COINS of " + man, x.told(20 + man), 90 + man);
            s.due("STRIDE of " + man, x.told(30 + man), 1 + man % 4);
        }
    }

    private void promise25OfRungs() {
        Sentence s = says(25, "40 and a RUNG 1 to 12: whose it is (NONE); 60 and a RUNG: to whom it is LEASED (NONE)");
        RungRights x = new RungRights();
        for (int rung = 1; rung <= RUNGS; rung++) {
            s.due("whose is " + rung + " at first", x.told(40 + rung), NONE);
            s.due("LEASED is " + rung + " at first", x.told(60 + rung), NONE);
        }
        for (int rung = 1; rung <= RUNGS; rung++) {
            x.rung(rung, rung % MEN, (rung + 2) % MEN, 0);
        }
        for (int rung = 1; rung <= RUNGS; rung++) {
            s.due("whose is " + rung, x.told(40 + rung), rung % MEN);
            s.due("LEASED is " + rung, x.told(60 + rung), (rung + 2) % MEN);
        }
    }

    private static boolean isTold(int what) {
        boolean ofMan = what >= 10 && what <= 15 || what >= 20 && what <= 25 || what >= 30 && what <= 35;
        boolean ofRung = what >= 41 && what <= 52 || what >= 61 && what <= 72;
        return what >= 0 && what <= 5 || ofMan || ofRung;
    }

    private void promise25Outside() {
        Sentence s = says(25, "OUTSIDE.");
        for (int what = -80; what <= 160; what++) {
            if (!isTold(what)) {
                s.due("told(" + what + ")", Scene.RICH.make().told(what), OUTSIDE);
            } else {
                s.holds("told(" + what + ") is taken", Scene.RICH.make().told(what) != OUTSIDE);
            }
        }
        s.refusesBeyond(0, 72, "told(#)", OUTSIDE, (x, n) -> x.told(n));
        int[] edges = {6, 9, 16, 19, 26, 29, 36, 39, 40, 53, 60};
        for (int what : edges) {
            s.refuses("told(" + what + ")", OUTSIDE, x -> x.told(what));
        }
    }

    private void promise25Pure() {
        Sentence s = says(25, "0 signs, 1 the beat, 2 those on the roof (bits)");
        for (int what = 0; what <= 72; what += 4) {
            int n = what;
            s.changesNothing("told(" + n + ")", x -> x.told(n));
        }
    }
}
