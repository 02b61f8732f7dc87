/** The edges of the ten reasons for which an ACT can not be (promise 7), and which of two is told. */
final class ReasonsEdges extends Edges {
    ReasonsEdges(Check check, Document document) {
        super(check, document);
    }

    @Override
    void all() {
        promise7Reason1();
        promise7Reason2WhereHeIs();
        promise7Reason2Farther();
        promise7Reason3();
        promise7Reason4();
        promise7Reason5();
        promise7Reason6();
        promise7Reason7();
        promise7Reason8();
        promise7Reason9();
        promise7Reason10();
        promise7TheLeastOfSteps();
        promise7TheLeastOfLeases();
    }

    private static void dueCan(Sentence s, RungRights x, String text) {
        dueJudged(s, x, text, NONE, NONE);
    }

    private void promise7Reason1() {
        Sentence s = says(7, "1 he has STEPPED (a step)");
        RungRights x = new RungRights();
        x.rung(5, 1, -1, 0);
        dueJudged(s, x, "AaAb", 1, 1);
        dueJudged(s, x, "AaA_", 1, 1);
        dueCan(s, x, "Aa.Ab");
        dueCan(s, x, "AaBb");
        dueCan(s, x, "AaA%e");
        dueCan(s, x, "Aakc+cka");
        dueJudged(s, x, "AakbkcAb", 3, 1);
        doneWith(x, "Aa");
        dueJudged(s, x, "Ab", 0, 1);
        dueCan(s, x, ".Ab");
        for (int man = 0; man < MEN; man++) {
            dueJudged(s, new RungRights(), "" + man(man) + 'a' + man(man) + '_', 1, 1);
        }
        RungRights roof = new RungRights();
        roof.man(0, 1, 5, 11);
        dueJudged(s, roof, "AlA^", 1, 1);
    }

    private void promise7Reason2WhereHeIs() {
        Sentence s = says(7, "2 it is where he is, or farther off, up or down, than his STRIDE (a step)");
        for (int place = 0; place <= ROOF; place++) {
            RungRights x = new RungRights();
            x.man(2, 4, 5, place);
            dueJudged(s, x, "C" + place(place), 0, 2);
            dueJudged(s, x, ".C" + place(place), 1, 2);
        }
    }

    /** From every place, with every stride, onto every place. */
    private void promise7Reason2Farther() {
        Sentence s = says(7, "2 it is where he is, or farther off, up or down, than his STRIDE (a step)");
        for (int stride = 1; stride <= 4; stride++) {
            for (int from = 0; from <= ROOF; from++) {
                RungRights x = new RungRights();
                x.man(5, stride, 5, from);
                for (int onto = 0; onto <= ROOF; onto++) {
                    int far = Math.abs(onto - from);
                    boolean can = far >= 1 && far <= stride;
                    dueJudged(s, x, "F" + place(onto), can ? NONE : 0, can ? NONE : 2);
                }
            }
        }
    }

    private void promise7Reason3() {
        Sentence s = says(7, "3 the RUNG is MISSING (a step onto one, %)");
        for (int rung = 1; rung <= RUNGS; rung++) {
            RungRights x = new RungRights();
            x.rung(rung, 1, -1, 0);
            missing(x, rung, rung);
            x.man(0, 1, 5, rung - 1);
            x.man(1, 1, 5, rung + 1);
            dueJudged(s, x, "A" + place(rung), 0, 3);
            dueJudged(s, x, "B" + place(rung), 0, 3);
            dueJudged(s, x, "C%" + place(rung), 0, 3);
            dueCan(s, x, "+" + place(rung) + "A" + place(rung));
        }
        RungRights all = new RungRights();
        missing(all, 1, RUNGS);
        all.man(0, 1, 5, RUNGS);
        all.man(1, 1, 5, 1);
        dueCan(s, all, "A^");
        dueCan(s, all, "B_");
    }

    private void promise7Reason4() {
        Sentence s = says(7, "4 he MAY not (a step onto one)");
        RungRights x = new RungRights();
        x.man(1, 1, 5, 2);
        x.rung(1, 1, -1, 0);
        dueJudged(s, x, "Aa", 0, 4);
        dueCan(s, x, "Ba");
        dueCan(s, x, "A%aAa");
        x.rung(1, 1, 2, 0);
        dueJudged(s, x, "Aa", 0, 4);
        dueCan(s, x, "Ca");
        dueCan(s, x, "Ba");
        x.rung(1, -1, -1, 0);
        dueCan(s, x, "Aa");
        RungRights captain = new RungRights();
        captain.rung(12, 5, -1, 0);
        captain.man(0, 1, 5, 11);
        captain.man(1, 2, 5, 11);
        dueJudged(s, captain, "Al", 0, 4);
        dueCan(s, captain, "B^");
        dueJudged(s, captain, "klAl", 1, 3);
        dueCan(s, captain, "kl+lAl");
    }

    private void promise7Reason5() {
        Sentence s = says(7, "5 somebody stands there (a step onto one)");
        for (int rung = 1; rung <= RUNGS; rung++) {
            RungRights x = new RungRights();
            x.man(0, 1, 5, rung - 1);
            x.man(5, 1, 5, rung);
            dueJudged(s, x, "A" + place(rung), 0, 5);
            dueCan(s, x, "F" + place(rung + 1) + "A" + place(rung));
        }
        RungRights many = new RungRights();
        for (int man = 0; man < MEN; man++) {
            many.man(man, 1, 5, man % 2 == 0 ? 1 : RUNGS);
        }
        dueCan(s, many, "A_C_E_B^D^F^");
        dueJudged(s, many, "A_.Aa", 2, 5);
        dueJudged(s, many, "A_C_.Aa", 3, 5);
        dueCan(s, many, "A_C_E_.Aa");
    }

    private void promise7Reason6() {
        Sentence s = says(7, "6 it is his, or nobody's (%)");
        RungRights x = new RungRights();
        for (int man = 0; man < MEN; man++) {
            x.rung(1 + man, man, -1, 0);
            dueJudged(s, x, man(man) + "%" + place(1 + man), 0, 6);
            dueJudged(s, x, man(man) + "%l", 0, 6);
            dueCan(s, x, man((man + 1) % MEN) + "%" + place(1 + man));
        }
    }

    private void promise7Reason7() {
        Sentence s = says(7, "7 it is LEASED already (%)");
        RungRights x = new RungRights();
        x.rung(1, 1, 2, 0);
        dueJudged(s, x, "A%a", 0, 7);
        dueJudged(s, x, "C%a", 0, 7);
        x.rung(1, 1, -1, 0);
        dueCan(s, x, "A%a");
        dueJudged(s, x, "A%aA%a", 1, 7);
        dueJudged(s, x, "A%aC%a", 1, 7);
        dueJudged(s, x, "A%aka+aC%a", 3, 6);
    }

    private void promise7Reason8() {
        Sentence s = says(7, "8 he has no COIN (%)");
        RungRights x = new RungRights();
        x.rung(1, 1, -1, 0);
        x.rung(2, 1, -1, 0);
        x.rung(3, 0, -1, 0);
        x.man(0, 2, 0, 0);
        dueJudged(s, x, "A%a", 0, 8);
        dueCan(s, x, "B%cA%a");
        dueJudged(s, x, "B%cA%aA%b", 2, 8);
        x.man(0, 2, 1, 0);
        dueCan(s, x, "A%a");
        dueJudged(s, x, "A%aA%b", 1, 8);
        x.man(0, 2, 2, 0);
        dueCan(s, x, "A%aA%b");
        x.man(0, 3, 0, 0);
        dueCan(s, x, "Ac");
    }

    private void promise7Reason9() {
        Sentence s = says(7, "9 it is MISSING already (k), is not (+)");
        for (int rung = 1; rung <= RUNGS; rung++) {
            RungRights x = new RungRights();
            dueJudged(s, x, "+" + place(rung), 0, 9);
            dueCan(s, x, "k" + place(rung));
            dueJudged(s, x, "k" + place(rung) + "k" + place(rung), 1, 9);
            missing(x, rung, rung);
            dueJudged(s, x, "k" + place(rung), 0, 9);
            dueCan(s, x, "+" + place(rung));
            dueJudged(s, x, "+" + place(rung) + "+" + place(rung), 1, 9);
        }
    }

    private void promise7Reason10() {
        Sentence s = says(7, "10 it is beat 99 (.)");
        RungRights x = atBeat(97);
        dueCan(s, x, "..");
        dueJudged(s, x, "...", 2, 10);
        doneWith(x, ".");
        dueCan(s, x, ".");
        doneWith(x, ".");
        s.due("the beat", x.told(1), 99);
        dueJudged(s, x, ".", 0, 10);
        dueCan(s, x, "AaBbkc+c");
        dueJudged(s, x, "Aa.Ab", 1, 10);
        doneWith(x, ".");
        s.due("the beat still", x.told(1), 99);
    }

    /** Of each two reasons that can fit one step at once, the least. */
    private void promise7TheLeastOfSteps() {
        Sentence s = says(7, "An ACT can not be for the least of these reasons");
        RungRights x = new RungRights();
        x.rung(3, 1, -1, 0);
        x.man(5, 1, 5, 3);
        x.man(4, 1, 5, 5);
        missing(x, 4, 4);
        dueJudged(s, x, "AbAb", 1, 1);
        dueJudged(s, x, "AbA^", 1, 1);
        dueJudged(s, x, "AbAd", 1, 1);
        dueJudged(s, x, "AbAc", 1, 1);
        dueJudged(s, x, "AbAe", 1, 1);
        dueJudged(s, x, "Ad", 0, 2);
        dueJudged(s, x, "Ac", 0, 2);
        dueJudged(s, x, "Ae", 0, 2);
        x.man(0, 2, 5, 2);
        dueJudged(s, x, "Ad", 0, 3);
        dueJudged(s, x, "Ac", 0, 4);
        x.man(3, 1, 5, 4);
        dueJudged(s, x, "Ad", 0, 3);
        x.rung(3, 0, -1, 0);
        dueJudged(s, x, "Ac", 0, 5);
        x.rung(3, 1, -1, 0);
        x.man(0, 2, 5, 3);
        dueJudged(s, x, "Ac", 0, 2);
        missing(x, 3, 3);
        dueJudged(s, x, "Ac", 0, 2);
    }

    private void promise7TheLeastOfLeases() {
        Sentence s = says(7, "An ACT can not be for the least of these reasons");
        RungRights x = new RungRights();
        x.man(0, 1, 0, 0);
        missing(x, 1, 1);
        x.rung(2, 0, 1, 0);
        x.rung(3, 1, 2, 0);
        x.rung(4, 1, -1, 0);
        dueJudged(s, x, "A%a", 0, 3);
        dueJudged(s, x, "A%b", 0, 6);
        dueJudged(s, x, "A%l", 0, 6);
        dueJudged(s, x, "A%c", 0, 7);
        dueJudged(s, x, "A%d", 0, 8);
        x.man(0, 1, 1, 0);
        dueJudged(s, x, "A%a", 0, 3);
        dueJudged(s, x, "A%b", 0, 6);
        dueJudged(s, x, "A%c", 0, 7);
        dueCan(s, x, "A%d");
    }
}
