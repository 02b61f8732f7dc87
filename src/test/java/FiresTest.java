/** Promises 7 to 11: judge, done, behind, bears, then. */
public final class FiresTest {
    private static final int NONE = RungRights.NONE;
    private static final int UNKNOWN = RungRights.UNKNOWN;
    private static final int OUTSIDE = RungRights.OUTSIDE;
    private static final int NO = RungRights.NO;
    private static final int LEAST = Integer.MIN_VALUE;
    private static final int MOST = Integer.MAX_VALUE;

    private static final Check check = new Check();

    public static void main(String[] args) {
        reasonsOfSteps();
        reasonsOfLeases();
        reasonsOfRungsAndBeats();
        theLeastReason();
        doneIsDone();
        behindTells();
        bearsTells();
        thenTells();
        refusals();
        check.end();
    }

    /** B's are rungs 3 and 4, 4 is leased to C; D stands on 2, E on the roof, F on 6; A strides 3. */
    private static RungRights scene() {
        RungRights x = new RungRights();
        x.man(0, 3, 5, 0);
        x.rung(3, 1, -1, 0);
        x.rung(4, 1, 2, 0);
        x.man(3, 2, 0, 2);
        x.man(4, 4, 5, 13);
        x.man(5, 1, 5, 6);
        x.rung(8, -1, -1, 1);
        return x;
    }

    private static void dueJudged(String text, int act, int why) {
        dueJudged(scene(), text, act, why);
    }

    private static void dueJudged(RungRights x, String text, int act, int why) {
        Check.tell(x, text);
        check.due("the act in '" + text + "'", x.judge(0), act);
        check.due("why in '" + text + "'", x.judge(1), why);
        if (act != NONE) {
            check.due("done of '" + text + "'", x.done(), NO);
            check.due("behind of '" + text + "'", x.behind(5, 3), NO);
            check.due("bears of '" + text + "'", x.bears(12, 3), NO);
            check.due("then of '" + text + "'", x.then(5), NO);
            check.due("signs of '" + text + "' stay", x.told(0), text.length());
        }
    }

    private static void reasonsOfSteps() {
        dueJudged("AaAb", 1, 1);
        dueJudged("Aa.AaBa", 2, 2);
        dueJudged("Aa.Ad", 2, 4);
        dueJudged("Aa.A_", NONE, NONE);
        dueJudged("A_", 0, 2);
        dueJudged("E^", 0, 2);
        dueJudged("Dd", 0, 4);
        dueJudged("De", 0, 2);
        dueJudged("D_", NONE, NONE);
        dueJudged("Fe", NONE, NONE);
        dueJudged("Fd", 0, 2);
        dueJudged("F^", 0, 2);
        dueJudged("Ei", NONE, NONE);
        dueJudged("Eh", 0, 2);
        dueJudged("Fg.Fh", 2, 3);
        dueJudged("Ac", 0, 4);
        dueJudged("Ab", 0, 5);
        dueJudged("Da.Ab.Db", 4, 5);
        dueJudged("Cb", 0, 5);
        dueJudged("DcBa", 0, 4);
        dueJudged("Ba.Bc", NONE, NONE);
        dueJudged("Ca.Cc", 2, 4);
        dueJudged("D_Cb.Cd", NONE, NONE);
        dueJudged("D_Bb.Bd", NONE, NONE);
        RungRights near = new RungRights();
        near.man(0, 4, 5, 9);
        near.man(1, 3, 5, 9);
        near.man(2, 4, 5, 4);
        near.man(3, 3, 5, 4);
        dueJudged(near, "A^", NONE, NONE);
        dueJudged(near, "B^", 0, 2);
        dueJudged(near, "A^", NONE, NONE);
        dueJudged(near, "C_", NONE, NONE);
        dueJudged(near, "D_", 0, 2);
        RungRights roof = new RungRights();
        roof.man(0, 2, 5, 12);
        roof.man(1, 2, 5, 11);
        dueJudged(roof, "A^B^", NONE, NONE);
    }

    private static void reasonsOfLeases() {
        dueJudged("A%h", 0, 3);
        dueJudged("A%a", 0, 6);
        dueJudged("B%c", 0, 6);
        dueJudged("B%d", 0, 6);
        dueJudged("A%d", 0, 7);
        dueJudged("C%d", 0, 7);
        dueJudged("D%c", 0, 8);
        dueJudged("D%d", 0, 7);
        dueJudged("D%a", 0, 6);
        dueJudged("D%h", 0, 3);
        dueJudged("A%cE%c", 1, 7);
        dueJudged("A%cAc", NONE, NONE);
        dueJudged("AaA%c", NONE, NONE);
        RungRights purse = new RungRights();
        purse.rung(1, 1, -1, 0);
        purse.rung(2, 1, -1, 0);
        purse.man(0, 2, 1, 0);
        dueJudged(purse, "A%aA%b", 1, 8);
        purse.rung(5, 0, -1, 0);
        dueJudged(purse, "A%aC%eA%b", NONE, NONE);
    }

    private static void reasonsOfRungsAndBeats() {
        dueJudged("kh", 0, 9);
        dueJudged("+a", 0, 9);
        dueJudged("+hkh", NONE, NONE);
        dueJudged("kakb+aka+b+b", 5, 9);
        dueJudged("kcAc", 1, 3);
        dueJudged("kc+cAc", NONE, NONE);
        dueJudged("kbD_.Db", 3, 3);
        RungRights late = new RungRights();
        String thirty = "..............................";
        for (int i = 0; i < 3; i++) {
            Check.tell(late, thirty);
            late.done();
        }
        dueJudged(late, ".........", NONE, NONE);
        check.due("nine beats", late.done(), 9);
        check.due("beat 99", late.told(1), 99);
        dueJudged(late, "Aa.", 1, 10);
    }

    /** Each reason stands ahead of all that come behind it. */
    private static void theLeastReason() {
        RungRights x = scene();
        x.rung(8, -1, -1, 1);
        x.man(0, 1, 5, 4);
        x.man(1, 1, 5, 9);
        Check.tell(x, "Ae");
        x.done();
        dueJudged(x, "Ae", 0, 1);
        dueJudged(x, "Ah", 0, 1);
        dueJudged(x, ".Ah", 1, 2);
        dueJudged(x, "Bh", 0, 3);
        x.man(5, 4, 5, 8);
        dueJudged(x, "Bh", 0, 3);
        x.rung(8, 0, -1, 0);
        dueJudged(x, "Bh", 0, 4);
        x.rung(8, 1, -1, 0);
        dueJudged(x, "Bh", 0, 5);
    }

    private static void doneIsDone() {
        RungRights x = scene();
        Check.tell(x, "A%cAcD_.Di.");
        check.due("not done", x.done(), NO);
        check.due("nothing changed: c", x.told(63), NONE);
        check.due("nothing changed: A", x.told(10), 0);
        check.due("nothing changed: beat", x.told(1), 0);
        Check.tell(x, "A%cAcD_.Ab+hkiEj");
        check.due("eight acts", x.done(), 8);
        check.due("pad empty", x.told(0), 0);
        check.due("A on b", x.told(10), 2);
        check.due("A has four coins", x.told(20), 4);
        check.due("B has six coins", x.told(21), 6);
        check.due("D on the ground", x.told(13), 0);
        check.due("E on j", x.told(14), 10);
        check.due("beat 1", x.told(1), 1);
        check.due("A, E stepped", x.told(3), 1 + 16);
        check.due("nobody on the roof", x.told(2), 0);
        check.due("i missing alone", x.told(4), 1 << 8);
        check.due("c leased to A", x.told(63), 0);
        check.due("empty text", x.done(), 0);
        Check.tell(x, "kdkc");
        check.due("two", x.done(), 2);
        check.due("d nobody's", x.told(44), NONE);
        check.due("d not leased", x.told(64), NONE);
        Check.tell(x, "+d");
        check.due("one", x.done(), 1);
        check.due("d still nobody's", x.told(44), NONE);
    }

    private static void behindTells() {
        RungRights x = scene();
        Check.tell(x, "A%cAcD_.Ab+hE%cF^");
        check.due("can not be", x.behind(0, 0), NO);
        Check.tell(x, "A%cAcD_.Ab+hEj");
        check.due("place of A", x.behind(0, 0), 2);
        check.due("coins of A", x.behind(0, 1), 4);
        check.due("rungs of A", x.behind(0, 2), 4095 - 8);
        check.due("A has stepped", x.behind(0, 3), 1);
        check.due("coins of B", x.behind(1, 1), 6);
        check.due("rungs of B", x.behind(1, 2), 4095);
        check.due("B has not stepped", x.behind(1, 3), 0);
        check.due("rungs of C", x.behind(2, 2), 4095 - 4);
        check.due("place of D", x.behind(3, 0), 0);
        check.due("D has not stepped in this beat", x.behind(3, 3), 0);
        check.due("rungs of D", x.behind(3, 2), 4095 - 4 - 8);
        check.due("place of E", x.behind(4, 0), 10);
        check.due("place of F", x.behind(5, 0), 6);
        check.due("nothing is done: A", x.told(10), 0);
        check.due("nothing is done: c", x.told(63), NONE);
        check.due("nothing is done: beat", x.told(1), 0);
        Check.tell(x, "");
        check.due("rungs of A, h missing, c and d B's", x.behind(0, 2), 4095 - 4 - 8 - 128);
    }

    private static void bearsTells() {
        RungRights x = scene();
        Check.tell(x, "A%cAckb.");
        check.due("c is B's", x.bears(3, 0), 1);
        check.due("c is leased to A", x.bears(3, 1), 0);
        check.due("A stands on c", x.bears(3, 2), 0);
        check.due("c is there", x.bears(3, 3), 0);
        check.due("b is nobody's", x.bears(2, 0), NONE);
        check.due("b is leased to nobody", x.bears(2, 1), NONE);
        check.due("b keeps D", x.bears(2, 2), 3);
        check.due("b is missing", x.bears(2, 3), 1);
        check.due("nobody on a", x.bears(1, 2), NONE);
        check.due("h is missing", x.bears(8, 3), 1);
        check.due("l is there", x.bears(12, 3), 0);
        Check.tell(x, "kd");
        check.due("d was leased", x.bears(4, 1), NONE);
        check.due("d was B's", x.bears(4, 0), NONE);
        x.man(5, 1, 5, 2);
        x.man(1, 1, 5, 2);
        Check.tell(x, "");
        check.due("the least who stands on b", x.bears(2, 2), 1);
    }

    private static void thenTells() {
        RungRights x = new RungRights();
        x.man(2, 2, 5, 11);
        x.man(1, 2, 5, 12);
        x.man(5, 1, 5, 13);
        x.rung(1, 4, -1, 0);
        x.rung(3, 4, -1, 0);
        Check.tell(x, "A%aAa..C^B^A%c");
        check.due("beats", x.then(0), 2);
        check.due("roof", x.then(1), 2 + 4 + 32);
        check.due("steps", x.then(2), 3);
        check.due("paid", x.then(3), 2);
        check.due("first act onto the roof", x.then(4), 4);
        check.due("who", x.then(5), 2);
        check.due("not done", x.told(1), 0);
        check.due("done", x.done(), 7);
        Check.tell(x, "Al");
        check.due("too far", x.then(0), NO);
        Check.tell(x, ".Fl");
        check.due("the beat goes on", x.then(0), 3);
        check.due("roof without F", x.then(1), 2 + 4);
        check.due("steps in the text alone", x.then(2), 1);
        check.due("coins in the text alone", x.then(3), 0);
        check.due("nobody came", x.then(4), NONE);
        check.due("nobody", x.then(5), NONE);
        Check.tell(x, ".Fl.F^.Fl");
        check.due("the act", x.then(4), 3);
        check.due("he", x.then(5), 5);
        check.due("he is down again", x.then(1), 2 + 4);
        Check.tell(x, "");
        check.due("empty: the beat", x.then(0), 2);
        check.due("empty: the roof", x.then(1), 2 + 4 + 32);
        check.due("empty: steps", x.then(2), 0);
    }

    private static void refusals() {
        RungRights x = new RungRights();
        Check.tell(x, "A");
        int[] odd = {-1, LEAST, MOST, 6, 13};
        for (int n : odd) {
            check.due("judge " + n, x.judge(n), OUTSIDE);
            check.due("behind man " + n, x.behind(n, n), UNKNOWN);
            check.due("behind what " + n, x.behind(5, n), OUTSIDE);
            check.due("bears what " + n, x.bears(12, n), OUTSIDE);
            check.due("then " + n, x.then(n), OUTSIDE);
        }
        check.due("judge 2", x.judge(2), OUTSIDE);
        check.due("behind what 4", x.behind(0, 4), OUTSIDE);
        check.due("bears what 4", x.bears(1, 4), OUTSIDE);
        int[] noRungs = {0, 13, -1, LEAST, MOST};
        for (int rung : noRungs) {
            check.due("bears rung " + rung, x.bears(rung, 9), UNKNOWN);
        }
        check.due("behind NO", x.behind(5, 3), NO);
        check.due("bears NO", x.bears(12, 3), NO);
        check.due("then NO", x.then(5), NO);
    }
}
