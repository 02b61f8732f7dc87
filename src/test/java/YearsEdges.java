import java.util.function.IntPredicate;

/** The edges of promise 22: year. Seeds are looked for by what they draw, as the document tells the draws. */
final class YearsEdges extends Edges {
    YearsEdges(Check check, Document document) {
        super(check, document);
    }

    @Override
    void all() {
        leastAndGreatestSeed();
        leastAndMostActs();
        leftOverBy65537();
        whoAndWhat();
        upOrDown();
        howFarUp();
        howFarDown();
        theRungThatIsLeased();
        leasesThatCanNotBe();
        missingAndThereAgain();
        beats();
        eachIfThatCanBe();
        whatIsTold();
        nothingIsDone();
        outside();
    }

    private static int draw(int x) {
        return (75 * x + 74) % 65537;
    }

    private static int who(int x) {
        return x % 6;
    }

    private static int kind(int x) {
        return x / 6 % 8;
    }

    private static int z(int x) {
        return x / 48;
    }

    private static boolean isStep(int x, int man) {
        return who(x) == man && kind(x) <= 3;
    }

    private static boolean isStepUp(int x, int man) {
        return isStep(x, man) && z(x) / 4 % 4 != 0;
    }

    private static boolean isStepDown(int x, int man) {
        return isStep(x, man) && z(x) / 4 % 4 == 0;
    }

    /** The first seed whose draws are so, one after the other. */
    private static int seed(IntPredicate... draws) {
        for (int seed = 0; seed <= 9999; seed++) {
            int x = seed;
            int fit = 0;
            for (IntPredicate fits : draws) {
                x = draw(x);
                fit += fits.test(x) ? 1 : 0;
            }
            if (fit == draws.length) {
                return seed;
            }
        }
        throw new IllegalStateException("no such seed");
    }

    /** 0 draws 74: C, a lease of RUNG 2; 9999 draws 29092: E, up, by 1 and 606 left over by his STRIDE. */
    private void leastAndGreatestSeed() {
        Sentence s = says(22, "A YEAR by a seed (0 to 9999) of m ACTS (1 to 99), from all as it is");
        RungRights x = new RungRights();
        x.rung(2, 0, -1, 0);
        s.due("year(0, 1, 1)", x.year(0, 1, 1), 6);
        s.due("year(0, 1, 2)", x.year(0, 1, 2), 0);
        RungRights near = standing(4, 2, 12);
        s.due("year(9999, 1, 0)", near.year(9999, 1, 0), 16);
        s.due("year(9999, 1, 2)", near.year(9999, 1, 2), 1);
        RungRights far = standing(4, 4, 10);
        s.due("year(9999, 1, 0) by three", far.year(9999, 1, 0), 16);
        far.man(4, 4, 5, 9);
        s.due("year(9999, 1, 0) from below", far.year(9999, 1, 0), 0);
        s.due("year(9999, 1, 2) from below", far.year(9999, 1, 2), 1);
    }

    private void leastAndMostActs() {
        Sentence s = says(22, "A YEAR by a seed (0 to 9999) of m ACTS (1 to 99), from all as it is");
        int[] seeds = {0, 1, 9998, 9999};
        for (int seed : seeds) {
            RungRights x = new RungRights();
            Model model = new Model();
            for (int m = 1; m <= 99; m++) {
                s.due("year(" + seed + ", " + m + ", 2)", x.year(seed, m, 2), model.year(seed, m, 2));
                s.due("year(" + seed + ", " + m + ", 0)", x.year(seed, m, 0), model.year(seed, m, 0));
                s.due("year(" + seed + ", " + m + ", 1)", x.year(seed, m, 1), model.year(seed, m, 1));
            }
        }
        int last = 0;
        while (new Model().year(last, 99, 2) == new Model().year(last, 98, 2)) {
            last++;
        }
        RungRights x = new RungRights();
        s.due("the 99th ACT is a step", x.year(last, 99, 2), x.year(last, 98, 2) + 1);
    }

    /** 872 draws 65474, the last that is not cut: C, up by 1 and 1364 left over; 873 draws 12: A, down by 1. */
    private void leftOverBy65537() {
        Sentence s = says(22, "x becomes (75 x and 74) left over by 65537");
        RungRights x = standing(2, 3, 10);
        x.man(0, 4, 5, 1);
        s.due("872: C comes up by three", x.year(872, 1, 0), 4);
        x.man(2, 3, 5, 9);
        s.due("872: by no more than three", x.year(872, 1, 0), 0);
        s.due("872: but he steps", x.year(872, 1, 2), 1);
        s.due("873: A steps down", x.year(873, 1, 2), 1);
        x.man(0, 4, 5, 0);
        s.due("873: from the ground he does not", x.year(873, 1, 2), 0);
        Model model = new Model();
        RungRights zero = new RungRights();
        for (int m = 14; m <= 18; m++) {
            s.due("5525 draws 0 as the 16th", zero.year(5525, m, 2), model.year(5525, m, 2));
        }
    }

    private void whoAndWhat() {
        Sentence s = says(22, "of MAN x left over by 6, by x by 6 (cut) left over by 8, z being x by 48 (cut): 0 to "
            + "3 he steps");
        for (int man = 0; man < MEN; man++) {
            for (int kind = 0; kind <= 7; kind++) {
                int m = man;
                int k = kind;
                int seed = seed(x -> who(x) == m && kind(x) == k && z(x) / 4 % 4 != 0);
                RungRights x = standing(man, 1, 12);
                s.due("MAN " + man + ", " + kind + ": the roof", x.year(seed, 1, 0), kind <= 3 ? 1 << man : 0);
                s.due("MAN " + man + ", " + kind + ": steps", x.year(seed, 1, 2), kind <= 3 ? 1 : 0);
            }
        }
    }

    private void upOrDown() {
        Sentence s = says(22, "if z by 4 (cut) left over by 4 is not 0, else down");
        for (int rest = 0; rest <= 3; rest++) {
            int n = rest;
            int seed = seed(x -> isStep(x, 3) && z(x) / 4 % 4 == n);
            RungRights x = standing(3, 1, 12);
            s.due(rest + " left over: the roof", x.year(seed, 1, 0), rest == 0 ? 0 : 8);
            s.due(rest + " left over: steps", x.year(seed, 1, 2), 1);
        }
    }

    private void howFarUp() {
        Sentence s = says(22, "he steps as many places up as 1 and z left over by his STRIDE");
        Sentence most = says(22, "(onto the ground, the roof at most)");
        for (int stride = 1; stride <= 4; stride++) {
            for (int rest = 0; rest < stride; rest++) {
                int st = stride;
                int n = rest;
                int seed = seed(x -> isStepUp(x, 5) && z(x) % st == n);
                int far = 1 + rest;
                s.due("just onto the roof", standing(5, stride, ROOF - far).year(seed, 1, 0), 32);
                RungRights below = standing(5, stride, ROOF - far - 1);
                s.due("just below it", below.year(seed, 1, 0), 0);
                s.due("just below it: steps", below.year(seed, 1, 2), 1);
                RungRights onto = standing(5, stride, 3);
                missing(onto, 1, RUNGS);
                s.due("no RUNG is there", onto.year(seed, 1, 2), 0);
                onto.rung(3 + far, -1, -1, 0);
                s.due("that RUNG is there", onto.year(seed, 1, 2), 1);
                for (int place = ROOF - far; place < ROOF; place++) {
                    most.due("the roof from " + place, standing(5, stride, place).year(seed, 1, 0), 32);
                }
                most.due("from the roof no step can be", standing(5, stride, ROOF).year(seed, 1, 2), 0);
                most.due("he is on it still", standing(5, stride, ROOF).year(seed, 1, 0), 32);
            }
        }
    }

    private void howFarDown() {
        Sentence s = says(22, "else down (onto the ground, the roof at most)");
        for (int stride = 1; stride <= 4; stride++) {
            for (int rest = 0; rest < stride; rest++) {
                int st = stride;
                int n = rest;
                int seed = seed(x -> isStepDown(x, 1) && z(x) % st == n);
                int far = 1 + rest;
                RungRights x = standing(1, stride, far + 1);
                missing(x, 1, RUNGS);
                s.due("no RUNG is there", x.year(seed, 1, 2), 0);
                x.rung(1, -1, -1, 0);
                s.due("onto RUNG 1", x.year(seed, 1, 2), 1);
                missing(x, 1, RUNGS);
                for (int place = far; place >= 1; place--) {
                    x.man(1, stride, 5, place);
                    s.due("onto the ground from " + place, x.year(seed, 1, 2), 1);
                }
                x.man(1, stride, 5, 0);
                s.due("from the ground no step can be", x.year(seed, 1, 2), 0);
                x.man(1, stride, 5, ROOF);
                x.rung(ROOF - far, -1, -1, 0);
                s.due("down from the roof", x.year(seed, 1, 0), 0);
            }
        }
    }

    private void theRungThatIsLeased() {
        Sentence s = says(22, "4 RUNG 1 and z left over by 12 is LEASED to him");
        for (int rung = 1; rung <= RUNGS; rung++) {
            int n = rung - 1;
            int seed = seed(x -> who(x) == 5 && kind(x) == 4 && z(x) % 12 == n);
            RungRights x = new RungRights();
            s.due("nobody's", x.year(seed, 1, 1), 5);
            owned(x, 0, 1, RUNGS);
            s.due("A's", x.year(seed, 1, 1), 6);
            x.rung(rung, 1, -1, 0);
            s.due("B's", x.year(seed, 1, 1), 5);
            owned(x, 1, 1, RUNGS);
            x.rung(rung, 0, -1, 0);
            s.due("this alone A's", x.year(seed, 1, 1), 6);
            int his = seed(y -> who(y) == 0 && kind(y) == 4 && z(y) % 12 == n);
            RungRights of = new RungRights();
            of.rung(rung, 3, -1, 0);
            s.due("A pays", of.year(his, 1, 1), 4);
        }
    }

    private void leasesThatCanNotBe() {
        Sentence s = says(22, "each if that can be");
        int seed = seed(x -> who(x) == 0 && kind(x) == 4 && z(x) % 12 == 0);
        RungRights x = new RungRights();
        x.rung(1, 1, -1, 0);
        x.man(0, 1, 1, 0);
        s.due("with one COIN", x.year(seed, 1, 1), 0);
        x.man(0, 1, 0, 0);
        s.due("without a COIN", x.year(seed, 1, 1), 0);
        x.man(0, 1, 99, 0);
        s.due("with 99", x.year(seed, 1, 1), 98);
        x.rung(1, 1, 2, 0);
        s.due("LEASED already", x.year(seed, 1, 1), 99);
        x.rung(1, 0, -1, 0);
        s.due("his own", x.year(seed, 1, 1), 99);
        missing(x, 1, 1);
        s.due("MISSING", x.year(seed, 1, 1), 99);
        int others = seed(y -> who(y) == 5 && kind(y) == 4 && z(y) % 12 == 11);
        x.rung(12, 0, -1, 0);
        s.due("one more than 99", x.year(others, 1, 1), 100);
    }

    /** Then somebody steps up onto that RUNG, or can not. */
    private void missingAndThereAgain() {
        Sentence s = says(22, "5 it is MISSING, if z by 12 (cut) left over by 2 is 0, else there again");
        IntPredicate up = x -> kind(x) <= 3 && z(x) / 4 % 4 != 0;
        for (int rung = 1; rung <= RUNGS; rung++) {
            int n = rung - 1;
            int gone = seed(x -> kind(x) == 5 && z(x) % 12 == n && z(x) / 12 % 2 == 0, up);
            int back = seed(x -> kind(x) == 5 && z(x) % 12 == n && z(x) / 12 % 2 == 1, up);
            RungRights there = allStanding(rung - 1);
            s.due("onto one that went MISSING", there.year(gone, 2, 2), 0);
            s.due("onto one that is there", there.year(back, 2, 2), 1);
            RungRights missing = allStanding(rung - 1);
            missing(missing, rung, rung);
            s.due("onto one that is MISSING", missing.year(gone, 2, 2), 0);
            s.due("onto one that is there again", missing.year(back, 2, 2), 1);
            s.due("onto the next one", allStanding(rung).year(gone, 2, 2), 1);
        }
    }

    private static RungRights allStanding(int place) {
        RungRights x = new RungRights();
        for (int man = 0; man < MEN; man++) {
            x.man(man, 1, 5, place);
        }
        return x;
    }

    private void beats() {
        Sentence s = says(22, "6, 7 a beat");
        for (int kind = 6; kind <= 7; kind++) {
            int k = kind;
            int seed = seed(x -> isStepUp(x, 1), x -> kind(x) == k, x -> isStepUp(x, 1));
            s.due("a step, a beat, a step", standing(1, 1, 0).year(seed, 3, 2), 2);
            RungRights late = atBeat(98);
            late.man(1, 1, 5, 0);
            s.due("from beat 98", late.year(seed, 3, 2), 2);
            doneWith(late, ".");
            s.due("beat 99 has none behind it", late.year(seed, 3, 2), 1);
        }
        int none = seed(x -> isStepUp(x, 1), x -> kind(x) == 4, x -> isStepUp(x, 1));
        s.due("a step, no beat, a step", standing(1, 1, 0).year(none, 3, 2), 1);
    }

    private void eachIfThatCanBe() {
        Sentence s = says(22, "each if that can be");
        int seed = seed(x -> isStepUp(x, 0));
        RungRights x = standing(0, 1, 5);
        s.due("nothing hinders", x.year(seed, 1, 2), 1);
        x.man(5, 1, 5, 6);
        s.due("somebody stands there", x.year(seed, 1, 2), 0);
        x.man(5, 1, 5, 7);
        x.rung(6, 5, 4, 0);
        s.due("he MAY not", x.year(seed, 1, 2), 0);
        x.rung(6, 5, 0, 0);
        s.due("it is LEASED to him", x.year(seed, 1, 2), 1);
        x.rung(6, 0, 5, 0);
        s.due("it is his", x.year(seed, 1, 2), 1);
        missing(x, 6, 6);
        s.due("it is MISSING", x.year(seed, 1, 2), 0);
        x.rung(6, -1, -1, 0);
        x.man(0, 1, 5, 4);
        doneWith(x, "Ae");
        s.due("he has STEPPED", x.year(seed, 1, 2), 0);
        doneWith(x, ".");
        s.due("he has not", x.year(seed, 1, 2), 1);
        for (int man = 1; man < MEN; man++) {
            x.man(man, 1, 5, ROOF);
        }
        x.man(0, 1, 5, 12);
        s.due("others on the roof are no matter", x.year(seed, 1, 0), 63);
    }

    private void whatIsTold() {
        Sentence s = says(22, "those on the roof (bits); COINS of MAN 0; steps in it");
        Sentence whats = says(22, "A YEAR: the roof (what = 0), COINS (1), steps (2).");
        int seed = seed(x -> who(x) == 1 && kind(x) >= 6);
        RungRights x = new RungRights();
        s.due("nobody on the roof", x.year(seed, 1, 0), 0);
        for (int man = 0; man < MEN; man++) {
            x.man(man, 1, 5, ROOF);
        }
        s.due("all on the roof", x.year(seed, 1, 0), 63);
        whats.due("no steps", x.year(seed, 1, 2), 0);
        x.man(0, 1, 0, ROOF);
        whats.due("no COINS", x.year(seed, 1, 1), 0);
        x.man(0, 1, 99, ROOF);
        x.man(1, 1, 98, ROOF);
        whats.due("99 COINS", x.year(seed, 1, 1), 99);
        doneWith(x, ".Al.A^");
        whats.due("steps that are done are not in it", x.year(seed, 1, 2), 0);
        Check.tell(x, "..A");
        whats.due("what stands on the pad is no matter", x.year(seed, 1, 1), 99);
    }

    private void nothingIsDone() {
        Sentence s = says(22, "Nothing is DONE in fact.");
        for (int what = 0; what <= 2; what++) {
            int n = what;
            s.changesNothing("year(0, 99, " + n + ")", x -> x.year(0, 99, n));
            s.changesNothing("year(9999, 99, " + n + ")", x -> x.year(9999, 99, n));
        }
        RungRights x = new RungRights();
        int first = x.year(1234, 99, 2);
        s.due("the same again", x.year(1234, 99, 2), first);
    }

    private void outside() {
        Sentence s = says(22, "OUTSIDE.");
        s.refusesBeyond(0, 9999, "year(#, 1, 0)", OUTSIDE, (x, n) -> x.year(n, 1, 0));
        s.refusesBeyond(0, 9999, "year(#, 99, 2)", OUTSIDE, (x, n) -> x.year(n, 99, 2));
        s.refusesBeyond(1, 99, "year(0, #, 0)", OUTSIDE, (x, n) -> x.year(0, n, 0));
        s.refusesBeyond(1, 99, "year(9999, #, 2)", OUTSIDE, (x, n) -> x.year(9999, n, 2));
        s.refusesBeyond(0, 2, "year(0, 1, #)", OUTSIDE, (x, n) -> x.year(0, 1, n));
        s.refusesBeyond(0, 2, "year(9999, 99, #)", OUTSIDE, (x, n) -> x.year(9999, 99, n));
    }
}
