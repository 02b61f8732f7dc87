import java.util.List;

/** The edges of promises 7 to 11: judge, done, behind, bears, then; and of what ACTS do. */
final class FiresEdges extends Edges {
    FiresEdges(Check check, Document document) {
        super(check, document);
    }

    @Override
    void all() {
        promise7TheAct();
        promise7TheFirstAct();
        promise7Outside();
        promise7No();
        promise7Pure();
        promise8Steps();
        promise8NothingElse();
        promise8Leases();
        promise8Gone();
        promise8Back();
        promise8Beats();
        promise8HowMany();
        promise8No();
        promise9AllOfAMan();
        promise9Unknown();
        promise9Outside();
        promise9No();
        promise9NothingIsDone();
        promise10AllOfARung();
        promise10WhoStands();
        promise10Unknown();
        promise10Outside();
        promise10No();
        promise11AllOfIt();
        promise11TheRoof();
        promise11InTheText();
        promise11Outside();
        promise11No();
    }

    private void promise7TheAct() {
        Sentence s = says(7, "JUDGED: the ACT (what = 0), why (1); NONE.");
        dueJudged(s, new RungRights(), "", NONE, NONE);
        dueJudged(s, new RungRights(), "Aa", NONE, NONE);
        dueJudged(s, new RungRights(), "A_", 0, 2);
        dueJudged(s, new RungRights(), ".A_", 1, 2);
        dueJudged(s, atBeat(39), ".".repeat(60), NONE, NONE);
        dueJudged(s, atBeat(40), ".".repeat(60), 59, 10);
        dueJudged(s, atBeat(99), ".".repeat(60), 0, 10);
    }

    private void promise7TheFirstAct() {
        Sentence s = says(7, "JUDGED: of FIRES the first ACT (from 0 on) that can not be, and why.");
        dueJudged(s, new RungRights(), "+aA_", 0, 9);
        dueJudged(s, new RungRights(), "A_+a", 0, 2);
        dueJudged(s, new RungRights(), "A%a+a", 0, 6);
        dueJudged(s, new RungRights(), "ka.A%aka", 2, 3);
        dueJudged(s, new RungRights(), "kaA%bAa", 1, 6);
    }

    private void promise7Outside() {
        Sentence s = says(7, "OUTSIDE");
        s.refusesBeyond(0, 1, "judge(#)", OUTSIDE, (x, n) -> x.judge(n));
    }

    private void promise7No() {
        Sentence s = says(7, "NO: there is a FAULT.");
        s.refusesIn(Scene.FAULTY, "judge(0)", NO, x -> x.judge(0));
        s.refusesIn(Scene.FAULTY, "judge(1)", NO, x -> x.judge(1));
        String[] faulty = {"A", "!", "A_z", ".k", "A_A", ".".repeat(59) + "A", ".".repeat(59) + "!"};
        for (String text : faulty) {
            dueJudged(s, new RungRights(), text, NO, NO);
        }
        s.due("an ACT that can not be is no FAULT", told("A_").judge(0), 0);
    }

    private void promise7Pure() {
        Sentence s = says(7, "JUDGED: the ACT (what = 0), why (1); NONE.");
        s.changesNothing("judge(0)", x -> x.judge(0));
        s.changesNothing("judge(1)", x -> x.judge(1));
    }

    private void promise8Steps() {
        Sentence s = says(8, "a MAN's letter and: a RUNG's letter, ^, or _ (he steps onto that RUNG, the roof, the "
            + "ground: he has STEPPED)");
        RungRights x = new RungRights();
        x.man(1, 4, 5, 9);
        x.man(2, 4, 5, 4);
        Check.tell(x, "AaB^C_");
        s.due("done()", x.done(), 3);
        s.due("onto a RUNG", x.told(10), 1);
        s.due("onto the roof", x.told(11), ROOF);
        s.due("onto the ground", x.told(12), 0);
        s.due("they have STEPPED", x.told(3), 7);
        s.due("no COIN is paid", x.told(20), 5);
        Check.tell(x, ".A_BlCd");
        s.due("done()", x.done(), 4);
        s.due("from a RUNG onto the ground", x.told(10), 0);
        s.due("from the roof onto a RUNG", x.told(11), 12);
        s.due("from the ground onto a RUNG", x.told(12), 4);
    }

    private void dueChanges(Sentence s, String text, String... rows) {
        RungRights x = new RungRights();
        x.rung(1, 0, 5, 0);
        x.rung(2, 1, 0, 0);
        x.rung(3, 2, -1, 0);
        x.man(3, 1, 0, 12);
        x.man(4, 1, 9, ROOF);
        List<String> before = Shown.toldOf(x);
        Check.tell(x, text);
        x.done();
        List<String> changed = Shown.toldOf(x);
        changed.removeAll(before);
        s.holds(text + " changes " + List.of(rows) + ", not " + changed, changed.equals(List.of(rows)));
    }

    private void promise8NothingElse() {
        Sentence s = says(8, "DONE: all is so then.");
        dueChanges(s, "");
        dueChanges(s, "Aa", "told(3) = 1", "told(10) = 1");
        dueChanges(s, "Ab", "told(3) = 1", "told(10) = 2");
        dueChanges(s, "D^", "told(2) = 24", "told(3) = 8", "told(13) = 13");
        dueChanges(s, "DkEl.E^", "told(1) = 1", "told(3) = 16", "told(13) = 11");
        dueChanges(s, "A%c", "told(20) = 4", "told(22) = 6", "told(63) = 0");
        dueChanges(s, "F%c", "told(22) = 6", "told(25) = 4", "told(63) = 5");
        dueChanges(s, "kb", "told(4) = 2", "told(42) = -6", "told(62) = -6");
        dueChanges(s, "kb+b", "told(42) = -6", "told(62) = -6");
        dueChanges(s, "kl", "told(4) = 2048");
        dueChanges(s, "kl+l");
        dueChanges(s, ".", "told(1) = 1");
        dueChanges(s, "Ab.", "told(1) = 1", "told(10) = 2");
        dueChanges(s, "Ab.A_.", "told(1) = 2");
        dueChanges(s, "AbA^", "told(0) = 4");
        dueChanges(s, "Ab!", "told(0) = 3");
    }

    private void promise8Leases() {
        Sentence s = says(8, "or % and a RUNG's letter (it is LEASED to him: he has a COIN fewer, whose it is one "
            + "more)");
        RungRights x = new RungRights();
        x.rung(1, 5, -1, 0);
        x.rung(12, 0, -1, 0);
        x.man(0, 2, 1, 0);
        x.man(5, 2, 0, 0);
        Check.tell(x, "A%aF%l");
        s.due("done()", x.done(), 2);
        s.due("the first RUNG", x.told(61), 0);
        s.due("the last RUNG", x.told(72), 5);
        s.due("whose it is stays", x.told(41), 5);
        s.due("one fewer, one more", x.told(20), 1);
        s.due("one more, one fewer", x.told(25), 0);
        s.due("nobody has STEPPED by it", x.told(3), 0);
        s.due("it is the same beat", x.told(1), 0);
    }

    private void promise8Gone() {
        Sentence s = says(8, "k and a RUNG's letter (it is MISSING; nobody's, LEASED to nobody, but it keeps who "
            + "stands on it)");
        for (int rung = 1; rung <= RUNGS; rung++) {
            RungRights x = new RungRights();
            x.rung(rung, 5, 0, 0);
            x.man(3, 1, 5, rung);
            Check.tell(x, "k" + place(rung));
            s.due("behind: who stands on it", x.bears(rung, 2), 3);
            s.due("done()", x.done(), 1);
            s.due("MISSING", x.told(4), bit(rung));
            s.due("nobody's", x.told(40 + rung), NONE);
            s.due("LEASED to nobody", x.told(60 + rung), NONE);
            s.due("he is on it", x.told(13), rung);
            Check.tell(x, "D" + place(rung - 1));
            s.due("he can step off it", x.judge(0), NONE);
        }
        RungRights y = new RungRights();
        StringBuilder all = new StringBuilder();
        for (int rung = 1; rung <= RUNGS; rung++) {
            all.append('k').append(place(rung));
        }
        doneWith(y, all.toString());
        s.due("all of them", y.told(4), 4095);
    }

    private void promise8Back() {
        Sentence s = says(8, "+ and a RUNG's letter (it is there again)");
        for (int rung = 1; rung <= RUNGS; rung++) {
            RungRights x = new RungRights();
            x.rung(rung, 5, 0, 0);
            missing(x, 1, RUNGS);
            x.man(3, 1, 5, rung);
            Check.tell(x, "+" + place(rung));
            s.due("done()", x.done(), 1);
            s.due("MISSING", x.told(4), 4095 - bit(rung));
            s.due("it was nobody's, and is", x.told(40 + rung), NONE);
            s.due("it was LEASED to nobody, and is", x.told(60 + rung), NONE);
            s.due("he is on it", x.told(13), rung);
        }
        RungRights y = new RungRights();
        y.rung(4, 1, 2, 0);
        doneWith(y, "kd+d");
        s.due("whose it was is not kept", y.told(44), NONE);
        s.due("to whom it was LEASED is not kept", y.told(64), NONE);
    }

    private void promise8Beats() {
        Sentence s = says(8, "or . (a beat: nobody has STEPPED)");
        RungRights x = new RungRights();
        for (int man = 0; man < MEN; man++) {
            x.man(man, 1, 5, man + 1);
        }
        doneWith(x, "A_");
        doneWith(x, "BaCbDcEdFe");
        s.due("all have", x.told(3), 63);
        Check.tell(x, ".");
        s.due("done()", x.done(), 1);
        s.due("nobody has", x.told(3), 0);
        s.due("one beat more", x.told(1), 1);
        s.due("nobody goes back", x.told(15), 5);
        s.due("beat 99 can come", atBeat(99).told(1), 99);
    }

    private void promise8HowMany() {
        Sentence s = says(8, "FIRES on the PAD are DONE (it is empty then): ACTS.");
        RungRights x = new RungRights();
        s.due("of an empty pad", x.done(), 0);
        Check.tell(x, "AaBbka+aB_.");
        s.due("of six", x.done(), NO);
        Check.tell(x, "AaBbka+a.B_");
        s.due("of six that can be", x.done(), 6);
        s.due("the pad is empty", x.told(0), 0);
        s.due("there is nothing to do again", x.done(), 0);
        s.due("nothing was done again", x.told(1), 1);
        Check.tell(x, ".".repeat(60));
        s.due("of sixty", x.done(), 60);
        s.due("the pad is empty", x.told(0), 0);
        Sentence all = says(8, "DONE: all is so then.");
        RungRights y = Scene.RICH.make();
        int[] behind = new int[MEN];
        for (int man = 0; man < MEN; man++) {
            behind[man] = 1000 * y.behind(man, 0) + y.behind(man, 1);
        }
        int beat = y.then(0);
        all.due("done()", y.done(), 4);
        for (int man = 0; man < MEN; man++) {
            all.due("MAN " + man + " is as it was behind", 1000 * y.told(10 + man) + y.told(20 + man), behind[man]);
        }
        all.due("the beat", y.told(1), beat);
    }

    private void promise8No() {
        Sentence s = says(8, "NO: there is a FAULT, or an ACT that can not be.");
        s.refusesIn(Scene.FAULTY, "done()", NO, RungRights::done);
        s.refusesIn(Scene.STUCK, "done()", NO, RungRights::done);
        s.due("the first ACT can not be", told("A_.").done(), NO);
        s.due("the last ACT can not be", told(".A_").done(), NO);
        s.due("a FAULT at the end", told(".!").done(), NO);
        s.due("a sign lacks", told(".+").done(), NO);
        RungRights x = atBeat(40);
        Check.tell(x, ".".repeat(60));
        s.due("the sixtieth can not be", x.done(), NO);
        s.due("none of the others is done", x.told(1), 40);
        s.due("all signs are there", x.wipe(), 60);
    }

    private void promise9AllOfAMan() {
        Sentence s = says(9, "of a MAN the place, his COINS, RUNGS on which he MAY be (bits, 0 the RUNG 1, and so "
            + "on), whether he has STEPPED (1, 0)");
        Sentence whats = says(9, "BEHIND: the place (what = 0), COINS (1), RUNGS (2), STEPPED (3).");
        RungRights x = new RungRights();
        x.man(0, 2, 1, 12);
        x.man(5, 2, 99, 1);
        x.rung(1, 5, -1, 0);
        x.rung(12, 5, -1, 0);
        s.due("an empty text: the place", x.behind(0, 0), 12);
        s.due("an empty text: COINS", x.behind(0, 1), 1);
        s.due("an empty text: RUNGS", x.behind(0, 2), 4095 - 1 - 2048);
        s.due("an empty text: STEPPED", x.behind(0, 3), 0);
        Check.tell(x, "A%aA^F_");
        whats.due("the place of A", x.behind(0, 0), ROOF);
        whats.due("COINS of A", x.behind(0, 1), 0);
        whats.due("RUNGS of A", x.behind(0, 2), 4095 - 2048);
        whats.due("STEPPED of A", x.behind(0, 3), 1);
        whats.due("the place of F", x.behind(5, 0), 0);
        whats.due("COINS of F", x.behind(5, 1), 100);
        whats.due("RUNGS of F", x.behind(5, 2), 4095);
        whats.due("STEPPED of F", x.behind(5, 3), 1);
        whats.due("STEPPED of E", x.behind(4, 3), 0);
        Check.tell(x, "A%aA^F_.");
        whats.due("STEPPED of A behind a beat", x.behind(0, 3), 0);
        for (int rung = 1; rung <= RUNGS; rung++) {
            RungRights y = new RungRights();
            missing(y, 1, RUNGS);
            Check.tell(y, "+" + place(rung));
            s.due("the bit of RUNG " + rung, y.behind(2, 2), bit(rung));
        }
    }

    private void promise9Unknown() {
        Sentence s = says(9, "UNKNOWN");
        s.refusesBeyond(0, 5, "behind(#, 0)", UNKNOWN, (x, n) -> x.behind(n, 0));
        s.refusesBeyond(0, 5, "behind(#, 3)", UNKNOWN, (x, n) -> x.behind(n, 3));
    }

    private void promise9Outside() {
        Sentence s = says(9, "OUTSIDE");
        s.refusesBeyond(0, 3, "behind(0, #)", OUTSIDE, (x, n) -> x.behind(0, n));
        s.refusesBeyond(0, 3, "behind(5, #)", OUTSIDE, (x, n) -> x.behind(5, n));
    }

    private void promise9No() {
        Sentence s = says(9, "NO, as of done().");
        for (int what = 0; what <= 3; what++) {
            int n = what;
            s.refusesIn(Scene.FAULTY, "behind(0, " + n + ")", NO, x -> x.behind(0, n));
            s.refusesIn(Scene.STUCK, "behind(5, " + n + ")", NO, x -> x.behind(5, n));
        }
    }

    private void promise9NothingIsDone() {
        Sentence s = says(9, "BEHIND, likewise, not being DONE");
        for (int what = 0; what <= 3; what++) {
            int n = what;
            s.changesNothing("behind(1, " + n + ")", x -> x.behind(1, n));
            s.changesNothing("bears(9, " + n + ")", x -> x.bears(9, n));
        }
        for (int what = 0; what <= 5; what++) {
            int n = what;
            s.changesNothing("then(" + n + ")", x -> x.then(n));
        }
    }

    private void promise10AllOfARung() {
        Sentence s = says(10, "of a RUNG whose it is, to whom it is LEASED, who stands on it, the least (NONE each), "
            + "whether it is MISSING (1, 0)");
        Sentence whats = says(10, "BEHIND: whose (what = 0), LEASED (1), who stands (2); NONE; MISSING (3).");
        for (int rung = 1; rung <= RUNGS; rung++) {
            RungRights x = new RungRights();
            s.due("whose at first", x.bears(rung, 0), NONE);
            s.due("LEASED at first", x.bears(rung, 1), NONE);
            s.due("who stands at first", x.bears(rung, 2), NONE);
            s.due("MISSING at first", x.bears(rung, 3), 0);
            x.rung(rung, 5, -1, 0);
            x.man(0, 1, 5, rung - 1);
            Check.tell(x, "A%" + place(rung) + "A" + place(rung));
            whats.due("whose", x.bears(rung, 0), 5);
            whats.due("LEASED", x.bears(rung, 1), 0);
            whats.due("who stands", x.bears(rung, 2), 0);
            whats.due("MISSING", x.bears(rung, 3), 0);
            Check.tell(x, "A%" + place(rung) + "A" + place(rung) + "k" + place(rung));
            whats.due("MISSING: whose", x.bears(rung, 0), NONE);
            whats.due("MISSING: LEASED", x.bears(rung, 1), NONE);
            whats.due("MISSING: who stands", x.bears(rung, 2), 0);
            whats.due("MISSING: MISSING", x.bears(rung, 3), 1);
        }
    }

    private void promise10WhoStands() {
        Sentence s = says(10, "who stands on it, the least (NONE each)");
        RungRights x = new RungRights();
        s.due("those on the ground stand on no RUNG", x.bears(1, 2), NONE);
        for (int man = 5; man >= 0; man--) {
            x.man(man, 1, 5, RUNGS);
            s.due("with MAN " + man, x.bears(RUNGS, 2), man);
        }
        Check.tell(x, "A^B^");
        s.due("when the least have gone", x.bears(RUNGS, 2), 2);
        Check.tell(x, "A^B^C^D^E^Fk");
        s.due("when all have gone", x.bears(RUNGS, 2), NONE);
        s.due("the last one is on the next", x.bears(11, 2), 5);
    }

    private void promise10Unknown() {
        Sentence s = says(10, "UNKNOWN: 1 to 12");
        s.refusesBeyond(1, RUNGS, "bears(#, 0)", UNKNOWN, (x, n) -> x.bears(n, 0));
        s.refusesBeyond(1, RUNGS, "bears(#, 3)", UNKNOWN, (x, n) -> x.bears(n, 3));
    }

    private void promise10Outside() {
        Sentence s = says(10, "OUTSIDE");
        s.refusesBeyond(0, 3, "bears(1, #)", OUTSIDE, (x, n) -> x.bears(1, n));
        s.refusesBeyond(0, 3, "bears(12, #)", OUTSIDE, (x, n) -> x.bears(RUNGS, n));
    }

    private void promise10No() {
        Sentence s = says(10, "NO, likewise.");
        for (int what = 0; what <= 3; what++) {
            int n = what;
            s.refusesIn(Scene.FAULTY, "bears(1, " + n + ")", NO, x -> x.bears(1, n));
            s.refusesIn(Scene.STUCK, "bears(12, " + n + ")", NO, x -> x.bears(RUNGS, n));
        }
    }

    private void dueThen(Sentence s, RungRights x, int... answers) {
        for (int what = 0; what <= 5; what++) {
            s.due("then(" + what + ")", x.then(what), answers[what]);
        }
    }

    private void promise11AllOfIt() {
        Sentence s = says(11, "BEHIND: the beat (what = 0), the roof (1), steps (2), COINS (3), the ACT (4; NONE), "
            + "who (5; NONE).");
        dueThen(s, new RungRights(), 0, 0, 0, 0, NONE, NONE);
        RungRights x = new RungRights();
        x.rung(1, 5, -1, 0);
        x.man(3, 1, 5, RUNGS);
        Check.tell(x, "A%a..AaD^B_");
        dueThen(s, x, NO, NO, NO, NO, NO, NO);
        Check.tell(x, "A%a..AaD^Bb.");
        dueThen(s, x, 3, 8, 3, 1, 4, 3);
        RungRights late = atBeat(98);
        Check.tell(late, ".");
        s.due("beat 99", late.then(0), 99);
        late.done();
        Check.tell(late, "");
        s.due("beat 99 of an empty text", late.then(0), 99);
    }

    private void promise11TheRoof() {
        Sentence s = says(11, "of all: the beat, those on the roof (bits), steps, COINS that were paid in the text, "
            + "the first ACT by which one came onto the roof, who (NONE).");
        RungRights x = new RungRights();
        for (int man = 0; man < MEN; man++) {
            x.man(man, 1, 5, RUNGS);
        }
        Check.tell(x, "F^E^D^C^B^A^");
        dueThen(s, x, 0, 63, 6, 0, 0, 5);
        Check.tell(x, ".".repeat(58) + "A^");
        dueThen(s, x, 58, 1, 1, 0, 58, 0);
        doneWith(x, "F^E^D^C^B^A^");
        dueThen(s, x, 0, 63, 0, 0, NONE, NONE);
        Check.tell(x, ".Al");
        dueThen(s, x, 1, 62, 1, 0, NONE, NONE);
        Check.tell(x, ".Al.A^.Al");
        dueThen(s, x, 3, 62, 3, 0, 3, 0);
    }

    private void promise11InTheText() {
        Sentence s = says(11, "steps, COINS that were paid in the text");
        RungRights x = new RungRights();
        x.man(0, 1, 99, 0);
        owned(x, 1, 1, RUNGS);
        Check.tell(x, "A%aA%bA%cA%dA%eA%fA%gA%hA%iA%jA%kA%l");
        dueThen(s, x, 0, 0, 0, 12, NONE, NONE);
        x.done();
        dueThen(s, x, 0, 0, 0, 0, NONE, NONE);
        Check.tell(x, "Aa.A_.".repeat(10));
        dueThen(s, x, 20, 0, 20, 0, NONE, NONE);
        x.done();
        s.due("steps that are done are not in the text", x.then(2), 0);
    }

    private void promise11Outside() {
        Sentence s = says(11, "OUTSIDE");
        s.refusesBeyond(0, 5, "then(#)", OUTSIDE, (x, n) -> x.then(n));
    }

    private void promise11No() {
        Sentence s = says(11, "NO, likewise.");
        for (int what = 0; what <= 5; what++) {
            int n = what;
            s.refusesIn(Scene.FAULTY, "then(" + n + ")", NO, x -> x.then(n));
            s.refusesIn(Scene.STUCK, "then(" + n + ")", NO, x -> x.then(n));
        }
    }
}
