/** The edges of promises 1 to 6: a new object, rung, man, say, wipe, fault. */
final class RungsEdges extends Edges {
    RungsEdges(Check check, Document document) {
        super(check, document);
    }

    @Override
    void all() {
        promise1AllIsEmpty();
        promise1ObjectsStandApart();
        promise1Rungs();
        promise1RungsGoUp();
        promise1MenAreLetters();
        promise1Strides();
        promise1Coins();
        promise1Places();
        promise1Stepped();
        promise1TheFirstBeat();
        promise1WhereAManMayBe();
        promise2Whose();
        promise2Leased();
        promise2Missing();
        promise2WhoseItWas();
        promise2Unknown();
        promise2NotLeased();
        promise2MissingAsTold();
        promise3Taken();
        promise3HasNotStepped();
        promise3AsTheyWere();
        promise3Unknown();
        promise3Outside();
        promise4Codes();
        promise4HowMany();
        promise4Outside();
        promise4Full();
        promise5SignsGo();
        promise6EmptyAndPure();
        promise6WhatBeginsAnAct();
        promise6WhatEndsAnAct();
        promise6FirstAndLast();
    }

    private void promise1AllIsEmpty() {
        Sentence s = says(1, "All RUNGS are nobody's, all MEN on the ground.");
        RungRights x = new RungRights();
        for (int rung = 1; rung <= RUNGS; rung++) {
            s.due("whose is " + rung, x.told(40 + rung), NONE);
            s.due("LEASED " + rung, x.told(60 + rung), NONE);
        }
        for (int man = 0; man < MEN; man++) {
            s.due("place of " + man, x.told(10 + man), 0);
        }
        s.due("signs", x.told(0), 0);
        s.due("those on the roof", x.told(2), 0);
        s.due("sights", x.told(5), 0);
        s.due("restore(0)", x.restore(0), STATE);
        s.due("restore(1)", x.restore(1), STATE);
    }

    private void promise1ObjectsStandApart() {
        Sentence s = says(1, "All RUNGS are nobody's, all MEN on the ground.");
        RungRights used = Scene.RICH.make();
        RungRights fresh = new RungRights();
        s.due("the other one's signs", used.told(0), 8);
        s.holds("a new object beside one that was used is new", Shown.of(fresh).equals(Scene.FRESH.shown()));
    }

    private void promise1Rungs() {
        Sentence s = says(1, "A RUNG is there (at first), or MISSING; it is a MAN's 0 to 5, or nobody's (at first), "
            + "and may be LEASED to one MAN.");
        RungRights x = new RungRights();
        s.due("MISSING at first", x.told(4), 0);
        for (int rung = 1; rung <= RUNGS; rung++) {
            s.due("RUNG " + rung + " at first", x.bears(rung, 3), 0);
        }
        for (int man = 0; man < MEN; man++) {
            x.rung(1, man, (man + 1) % MEN, 0);
            s.due("it is MAN " + man + "'s", x.told(41), man);
            s.due("it is LEASED to the next", x.told(61), (man + 1) % MEN);
        }
        missing(x, 1, RUNGS);
        s.due("all MISSING", x.told(4), 4095);
    }

    private void promise1RungsGoUp() {
        Sentence s = says(1, "RUNGS 1 to 12 (a to l) go up from the ground (place 0) to the roof (place 13).");
        RungRights x = new RungRights();
        x.man(0, 1, 5, 0);
        String up = "abcdefghijkl^";
        for (int i = 0; i < up.length(); i++) {
            Check.tell(x, "A" + up.charAt(i) + ".");
            s.due("a step up onto " + up.charAt(i), x.done(), 2);
            s.due("the place then", x.told(10), i + 1);
        }
        String down = "lkjihgfedcba_";
        for (int i = 0; i < down.length(); i++) {
            Check.tell(x, "A" + down.charAt(i) + ".");
            s.due("a step down onto " + down.charAt(i), x.done(), 2);
            s.due("the place then", x.told(10), ROOF - 1 - i);
        }
    }

    private void promise1MenAreLetters() {
        Sentence s = says(1, "MEN 0 to 5 (A to F)");
        for (int man = 0; man < MEN; man++) {
            RungRights x = told("" + man(man) + 'b');
            s.due("done() of a step of " + man(man), x.done(), 1);
            s.due("the place of MAN " + man, x.told(10 + man), 2);
            s.due("who has STEPPED", x.told(3), 1 << man);
        }
        s.due("behind A there is none", told("@b").fault(), 0);
        s.due("beyond F there is none", told("Gb").fault(), 0);
    }

    private void promise1Strides() {
        Sentence s = says(1, "have a STRIDE of 1 to 4 (2 at first)");
        RungRights x = new RungRights();
        for (int man = 0; man < MEN; man++) {
            s.due("STRIDE of " + man, x.told(30 + man), 2);
        }
        for (int stride = 1; stride <= 4; stride++) {
            x.man(5, stride, 5, 0);
            s.due("STRIDE " + stride, x.told(35), stride);
        }
        s.refuses("STRIDE 0", OUTSIDE, y -> y.man(5, 0, 5, 0));
        s.refuses("STRIDE 5", OUTSIDE, y -> y.man(5, 5, 5, 0));
    }

    private void promise1Coins() {
        Sentence s = says(1, "COINS (0 to 99 as told, by a lease more; 5 at first)");
        RungRights x = new RungRights();
        for (int man = 0; man < MEN; man++) {
            s.due("COINS of " + man, x.told(20 + man), 5);
        }
        x.man(0, 2, 12, 0);
        x.man(1, 2, 99, ROOF);
        owned(x, 1, 1, RUNGS);
        Check.tell(x, "A%a");
        s.due("a lease of one with 99", x.judge(0), NONE);
        s.due("COINS behind it", x.behind(1, 1), 100);
        doneWith(x, "A%aA%bA%cA%dA%eA%fA%gA%hA%iA%jA%kA%l");
        s.due("twelve more than 99", x.told(21), 111);
        s.due("twelve fewer than 12", x.told(20), 0);
        s.due("100 times 13, and 111", x.man(1, 2, 99, 0), 1411);
        s.due("as told again", x.told(21), 99);
    }

    private void promise1Places() {
        Sentence s = says(1, "are on a place (0, at first)");
        RungRights x = new RungRights();
        s.due("at first", x.told(14), 0);
        for (int place = 0; place <= ROOF; place++) {
            x.man(4, 2, 5, place);
            s.due("the place", x.told(14), place);
            s.due("on the roof", x.told(2), place == ROOF ? 16 : 0);
        }
    }

    private void promise1Stepped() {
        Sentence s = says(1, "and have STEPPED in this beat, or not");
        RungRights x = new RungRights();
        s.due("nobody at first", x.told(3), 0);
        doneWith(x, "AaBbCdDcEa");
        s.due("nothing of what can not be", x.told(3), 0);
        doneWith(x, "Aa.");
        s.due("behind the beat", x.told(3), 0);
        doneWith(x, "AcBaCb");
        s.due("A, B and C", x.told(3), 7);
        doneWith(x, "ke+e");
        s.due("nothing but a beat ends it", x.told(3), 7);
        doneWith(x, ".");
        s.due("in the next beat", x.told(3), 0);
    }

    private void promise1TheFirstBeat() {
        Sentence s = says(1, "It is beat 0 at first.");
        RungRights x = new RungRights();
        s.due("told(1)", x.told(1), 0);
        s.due("then(0)", x.then(0), 0);
    }

    private void promise1WhereAManMayBe() {
        Sentence s = says(9, "A MAN MAY be on a RUNG that is there, and is his, or nobody's, or LEASED to him.");
        RungRights x = new RungRights();
        s.due("all", x.behind(0, 2), 4095);
        x.rung(1, 0, -1, 0);
        x.rung(2, 1, -1, 0);
        x.rung(3, 1, 0, 0);
        x.rung(4, 1, 2, 0);
        x.rung(5, 0, 1, 0);
        x.rung(12, -1, -1, 1);
        int others = 4095 - 31 - 2048;
        s.due("his, LEASED to him, his though LEASED", x.behind(0, 2), others + 1 + 4 + 16);
        s.due("the same of the other one", x.behind(1, 2), others + 2 + 4 + 8 + 16);
        s.due("of one to whom one is LEASED", x.behind(2, 2), others + 8);
        s.due("of one who has none", x.behind(3, 2), others);
        missing(x, 1, RUNGS);
        s.due("none", x.behind(0, 2), 0);
    }

    private void promise2Whose() {
        Sentence s = says(2, "Whose a RUNG is (-1: nobody's)");
        for (int rung = 1; rung <= RUNGS; rung++) {
            RungRights x = new RungRights();
            for (int owner = 5; owner >= -1; owner--) {
                s.due("rung(" + rung + ", " + owner + ", -1, 0)", x.rung(rung, owner, -1, 0), owner == 5 ? NONE : owner + 1);
                s.due("whose it is", x.told(40 + rung), owner == -1 ? NONE : owner);
                s.due("whose its neighbour is", x.told(40 + rung % RUNGS + 1), NONE);
            }
        }
    }

    private void promise2Leased() {
        Sentence s = says(2, "to whom it is LEASED (-1: to nobody)");
        for (int rung = 1; rung <= RUNGS; rung++) {
            RungRights x = new RungRights();
            int before = NONE;
            for (int lease = 5; lease >= -1; lease--) {
                int owner = lease == 3 ? 4 : 3;
                s.due("rung(" + rung + ", " + owner + ", " + lease + ", 0)", x.rung(rung, owner, lease, 0), before);
                before = owner;
                s.due("to whom it is LEASED", x.told(60 + rung), lease == -1 ? NONE : lease);
                s.due("its neighbour", x.told(60 + rung % RUNGS + 1), NONE);
            }
        }
        RungRights x = new RungRights();
        x.rung(6, 0, 5, 0);
        s.due("no COIN is paid by this", x.told(25), 5);
    }

    private void promise2Missing() {
        Sentence s = says(2, "whether it is MISSING (1, 0; then both are -1)");
        for (int rung = 1; rung <= RUNGS; rung++) {
            RungRights x = new RungRights();
            x.rung(rung, 5, 0, 0);
            x.man(2, 2, 5, rung);
            s.due("MISSING", x.rung(rung, -1, -1, 1), 5);
            s.due("it alone", x.told(4), bit(rung));
            s.due("whose", x.told(40 + rung), NONE);
            s.due("LEASED", x.told(60 + rung), NONE);
            s.due("who stands on it", x.told(12), rung);
            s.due("MISSING once more", x.rung(rung, -1, -1, 1), NONE);
            s.due("there again, and somebody's", x.rung(rung, 0, 5, 0), NONE);
            s.due("none is MISSING", x.told(4), 0);
            s.due("whose then", x.told(40 + rung), 0);
            s.due("LEASED then", x.told(60 + rung), 5);
        }
    }

    private void promise2WhoseItWas() {
        Sentence s = says(2, "whose it was (NONE: nobody's)");
        RungRights x = new RungRights();
        s.due("at first", x.rung(12, 0, 5, 0), NONE);
        s.due("the first MAN's", x.rung(12, 5, 0, 0), 0);
        s.due("the last MAN's", x.rung(12, -1, -1, 0), 5);
        s.due("nobody's", x.rung(12, 3, -1, 0), NONE);
        s.due("from there to MISSING", x.rung(12, -1, -1, 1), 3);
        s.due("MISSING", x.rung(12, -1, -1, 0), NONE);
    }

    private void promise2Unknown() {
        Sentence s = says(2, "UNKNOWN: the RUNG 1 to 12, both MEN");
        s.refusesBeyond(1, RUNGS, "rung(#, 0, 1, 0)", UNKNOWN, (x, n) -> x.rung(n, 0, 1, 0));
        s.refusesBeyond(1, RUNGS, "rung(#, -1, -1, 1)", UNKNOWN, (x, n) -> x.rung(n, -1, -1, 1));
        s.refusesBeyond(-1, 5, "rung(6, #, -1, 0)", UNKNOWN, (x, n) -> x.rung(6, n, -1, 0));
        s.refusesBeyond(-1, 5, "rung(6, 0, #, 0)", UNKNOWN, (x, n) -> x.rung(6, 0, n, 0));
        s.refuses("rung(6, -6, -1, 0)", UNKNOWN, x -> x.rung(6, NONE, -1, 0));
        s.refuses("rung(6, 0, -6, 0)", UNKNOWN, x -> x.rung(6, 0, NONE, 0));
    }

    private void promise2NotLeased() {
        Sentence s = says(2, "OUTSIDE: a nobody's one, his own one is not LEASED");
        for (int man = 0; man < MEN; man++) {
            int n = man;
            s.refuses("a nobody's one to " + n, OUTSIDE, x -> x.rung(12, -1, n, 0));
            s.refuses("his own one to " + n, OUTSIDE, x -> x.rung(1, n, n, 0));
        }
    }

    private void promise2MissingAsTold() {
        Sentence s = says(2, "MISSING as told");
        s.refusesBeyond(0, 1, "rung(2, -1, -1, #)", OUTSIDE, (x, n) -> x.rung(2, -1, -1, n));
        s.refusesBeyond(0, 1, "rung(2, 3, 4, #)", OUTSIDE, (x, n) -> x.rung(2, 3, 4, n));
        for (int man = 0; man < MEN; man++) {
            int n = man;
            s.refuses("MISSING and a MAN's", OUTSIDE, x -> x.rung(2, n, -1, 1));
            s.refuses("MISSING and LEASED", OUTSIDE, x -> x.rung(2, -1, n, 1));
            s.refuses("MISSING and both", OUTSIDE, x -> x.rung(2, n, (n + 1) % MEN, 1));
            s.refuses("MISSING and his own one LEASED", OUTSIDE, x -> x.rung(2, n, n, 1));
        }
    }

    private void promise3Taken() {
        Sentence s = says(3, "STRIDE, COINS, the place of a MAN");
        for (int man = 0; man < MEN; man++) {
            RungRights x = new RungRights();
            s.due("the least of all", x.man(man, 1, 0, 0), 5);
            s.due("STRIDE", x.told(30 + man), 1);
            s.due("COINS", x.told(20 + man), 0);
            s.due("place", x.told(10 + man), 0);
            s.due("the greatest of all", x.man(man, 4, 99, ROOF), 0);
            s.due("STRIDE", x.told(30 + man), 4);
            s.due("COINS", x.told(20 + man), 99);
            s.due("place", x.told(10 + man), ROOF);
            int next = (man + 1) % MEN;
            s.due("STRIDE of another", x.told(30 + next), 2);
            s.due("COINS of another", x.told(20 + next), 5);
            s.due("place of another", x.told(10 + next), 0);
        }
        RungRights x = new RungRights();
        missing(x, 3, 3);
        x.rung(4, 0, -1, 0);
        s.due("onto one that is MISSING", x.man(1, 2, 5, 3), 5);
        s.due("onto another's", x.man(1, 2, 5, 4), 305);
        s.due("onto one with another one", x.man(2, 2, 5, 4), 5);
        s.due("who stands there, the least", x.bears(4, 2), 1);
    }

    private void promise3HasNotStepped() {
        Sentence s = says(3, "he has not STEPPED");
        RungRights x = new RungRights();
        x.man(1, 1, 5, 11);
        x.man(5, 1, 5, 11);
        doneWith(x, "AaBlFj");
        s.due("three have", x.told(3), 1 + 2 + 32);
        x.man(5, 1, 5, 10);
        s.due("F has not, though nothing else is new", x.told(3), 1 + 2);
        x.man(0, 1, 5, 0);
        s.due("A has not", x.told(3), 2);
        Check.tell(x, "Aa");
        s.due("he can step in the same beat", x.judge(0), NONE);
        x.man(3, 1, 5, 0);
        s.due("of one who had not", x.told(3), 2);
    }

    private void promise3AsTheyWere() {
        Sentence s = says(3, "100 times the place, and his COINS, as they were");
        RungRights x = new RungRights();
        s.due("0 and 5", x.man(3, 1, 0, 0), 5);
        s.due("0 and 0", x.man(3, 1, 99, 0), 0);
        s.due("0 and 99", x.man(3, 1, 0, 1), 99);
        s.due("1 and 0", x.man(3, 1, 99, ROOF), 100);
        s.due("13 and 99", x.man(3, 1, 0, ROOF), 1399);
        s.due("13 and 0", x.man(3, 1, 0, 0), 1300);
    }

    private void promise3Unknown() {
        Sentence s = says(3, "UNKNOWN");
        s.refusesBeyond(0, 5, "man(#, 2, 5, 0)", UNKNOWN, (x, n) -> x.man(n, 2, 5, 0));
    }

    private void promise3Outside() {
        Sentence s = says(3, "OUTSIDE: STRIDE 1 to 4, 0 to 99, 0 to 13");
        s.refusesBeyond(1, 4, "man(0, #, 99, 13)", OUTSIDE, (x, n) -> x.man(0, n, 99, ROOF));
        s.refusesBeyond(0, 99, "man(5, 4, #, 13)", OUTSIDE, (x, n) -> x.man(5, 4, n, ROOF));
        s.refusesBeyond(0, ROOF, "man(1, 4, 99, #)", OUTSIDE, (x, n) -> x.man(1, 4, 99, n));
    }

    private void promise4Codes() {
        Sentence s = says(4, "FIRES are a text on a PAD (60 SIGNS at most, codes 33 to 126) of ACTS");
        RungRights x = new RungRights();
        for (int code = 33; code <= 126; code++) {
            s.due("say(" + code + ")", x.say(code), 1);
            s.due("told(0)", x.told(0), 1);
            s.due("wipe()", x.wipe(), 1);
        }
    }

    private void promise4HowMany() {
        Sentence s = says(4, "A sign more: how many.");
        RungRights x = new RungRights();
        for (int i = 1; i <= 60; i++) {
            s.due("sign " + i, x.say(i % 2 == 0 ? 33 : 126), i);
        }
        s.due("signs", x.told(0), 60);
        for (int i = 0; i < 5; i++) {
            s.due("one sign more than 60", x.say('.'), FULL);
        }
        s.due("signs still", x.told(0), 60);
    }

    private void promise4Outside() {
        Sentence s = says(4, "OUTSIDE");
        s.refusesBeyond(33, 126, "say(#)", OUTSIDE, (x, n) -> x.say(n));
        s.refuses("say(0)", OUTSIDE, x -> x.say(0));
        s.refuses("say(-65)", OUTSIDE, x -> x.say(-65));
        s.refuses("say('.' + 128)", OUTSIDE, x -> x.say('.' + 128));
    }

    private void promise4Full() {
        Sentence s = says(4, "FULL");
        s.refusesIn(Scene.BRIM, "say(33)", FULL, x -> x.say(33));
        s.refusesIn(Scene.BRIM, "say(126)", FULL, x -> x.say(126));
        RungRights x = Scene.BRIM.make();
        s.due("wipe()", x.wipe(), 60);
        s.due("there is room behind a wipe", x.say('.'), 1);
        RungRights y = told(".".repeat(60));
        s.due("done()", y.done(), 60);
        s.due("there is room behind a done", y.say('.'), 1);
        RungRights z = told(".".repeat(59));
        s.due("the sixtieth", z.say('.'), 60);
        s.due("the next", z.say('.'), FULL);
    }

    private void promise5SignsGo() {
        Sentence s = says(5, "Signs go: how many there were.");
        RungRights x = new RungRights();
        s.due("of an empty pad", x.wipe(), 0);
        x.say('A');
        s.due("of one", x.wipe(), 1);
        s.due("of none again", x.wipe(), 0);
        s.due("signs", x.told(0), 0);
        s.due("fault() of none", x.fault(), NONE);
        Check.tell(x, "z".repeat(60));
        s.due("of sixty", x.wipe(), 60);
        s.due("done() of none", x.done(), 0);
        s.due("the first sign again", x.say('.'), 1);
        s.due("what was wiped does not come back", x.done(), 1);
        RungRights rich = Scene.RICH.make();
        rich.wipe();
        Check.tell(rich, "B%iBf.Ci");
        s.holds("nothing but signs goes", Shown.of(rich).equals(Scene.RICH.shown()));
    }

    private void promise6EmptyAndPure() {
        Sentence s = says(6, "THE FAULT; NONE.");
        s.due("of an empty pad", new RungRights().fault(), NONE);
        s.due("of a text without one", told("A%bAb.ka+aB^C_").fault(), NONE);
        s.due("of a text that can not be", told("A^A^kaka").fault(), NONE);
        s.due("of a full pad without one", told(".".repeat(60)).fault(), NONE);
        s.changesNothing("fault()", RungRights::fault);
    }

    private void dueFault(Sentence s, String text, int place) {
        s.due("fault() of '" + text + "'", told(text).fault(), place);
    }

    /** Every sign that there is, where an act begins, first in a text and behind another act. */
    private void promise6WhatBeginsAnAct() {
        Sentence s = says(6, "THE FAULT: the place (from 0 on) of the first sign that can not stand there; the "
            + "number of signs, if more must come.");
        for (char sign = 33; sign <= 126; sign++) {
            boolean needsMore = sign >= 'A' && sign <= 'F' || sign == 'k' || sign == '+';
            dueFault(s, "" + sign, sign == '.' ? NONE : needsMore ? 1 : 0);
            dueFault(s, "A%l" + sign, sign == '.' ? NONE : needsMore ? 4 : 3);
            dueFault(s, "kk" + sign + "z", sign == '.' ? 3 : needsMore ? 3 : 2);
        }
    }

    /** Every sign that there is behind what must have more. */
    private void promise6WhatEndsAnAct() {
        Sentence step = says(6, "a MAN's letter and: a RUNG's letter, ^, or _");
        Sentence lease = says(6, "or % and a RUNG's letter");
        Sentence gone = says(6, "k and a RUNG's letter");
        Sentence back = says(6, "+ and a RUNG's letter");
        for (char sign = 33; sign <= 126; sign++) {
            boolean isRung = sign >= 'a' && sign <= 'l';
            boolean isEnd = sign == '^' || sign == '_';
            dueFault(step, "A" + sign, isRung || isEnd ? NONE : sign == '%' ? 2 : 1);
            dueFault(step, ".F" + sign, isRung || isEnd ? NONE : sign == '%' ? 3 : 2);
            dueFault(lease, "A%" + sign, isRung ? NONE : 2);
            dueFault(lease, "+aF%" + sign, isRung ? NONE : 4);
            dueFault(gone, "k" + sign, isRung ? NONE : 1);
            dueFault(back, "+" + sign, isRung ? NONE : 1);
        }
    }

    private void promise6FirstAndLast() {
        Sentence s = says(6, "THE FAULT: the place (from 0 on) of the first sign that can not stand there; the "
            + "number of signs, if more must come.");
        dueFault(s, "zz", 0);
        dueFault(s, "Az!", 1);
        dueFault(s, "A%z%", 2);
        dueFault(s, "!A", 0);
        dueFault(s, "Aab", 2);
        dueFault(s, "A%", 2);
        dueFault(s, ".".repeat(59) + "!", 59);
        dueFault(s, ".".repeat(59) + "A", 60);
        dueFault(s, ".".repeat(58) + "A%", 60);
        dueFault(s, ".".repeat(58) + "Az", 59);
        dueFault(s, ".".repeat(57) + "A%l", NONE);
        dueFault(s, ".".repeat(57) + "A%m", 59);
        dueFault(s, "A%l".repeat(20), NONE);
        dueFault(s, "F^".repeat(30), NONE);
        RungRights x = told(".".repeat(59) + "k");
        x.say('a');
        s.due("what was refused does not end the act", x.fault(), 60);
    }
}
