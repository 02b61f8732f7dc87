/** Promises 1 to 6: a new object, rung, man, say, wipe, fault. */
public final class RungsTest {
    private static final int NONE = RungRights.NONE;
    private static final int UNKNOWN = RungRights.UNKNOWN;
    private static final int OUTSIDE = RungRights.OUTSIDE;
    private static final int FULL = RungRights.FULL;
    private static final int LEAST = Integer.MIN_VALUE;
    private static final int MOST = Integer.MAX_VALUE;

    private static final Check check = new Check();

    public static void main(String[] args) {
        aNewObject();
        rungSets();
        rungRefuses();
        manSets();
        manRefuses();
        sayAndWipe();
        faults();
        check.end();
    }

    private static void aNewObject() {
        RungRights x = new RungRights();
        for (int what = 0; what <= 5; what++) {
            check.due("new told(" + what + ")", x.told(what), 0);
        }
        for (int man = 0; man < 6; man++) {
            check.due("new place of " + man, x.told(10 + man), 0);
            check.due("new coins of " + man, x.told(20 + man), 5);
            check.due("new stride of " + man, x.told(30 + man), 2);
        }
        for (int rung = 1; rung <= 12; rung++) {
            check.due("new owner of " + rung, x.told(40 + rung), NONE);
            check.due("new lease of " + rung, x.told(60 + rung), NONE);
        }
        check.due("new restore(0)", x.restore(0), RungRights.STATE);
        check.due("new restore(1)", x.restore(1), RungRights.STATE);
        check.due("new fault", x.fault(), NONE);
    }

    private static void rungSets() {
        RungRights x = new RungRights();
        check.due("nobody's before", x.rung(12, 0, 5, 0), NONE);
        check.due("owner 0", x.told(52), 0);
        check.due("leased to 5", x.told(72), 5);
        check.due("was 0's", x.rung(12, 5, -1, 0), 0);
        check.due("owner 5", x.told(52), 5);
        check.due("lease gone", x.told(72), NONE);
        check.due("not missing", x.told(4), 0);
        check.due("was 5's", x.rung(12, -1, -1, 1), 5);
        check.due("missing", x.told(4), 1 << 11);
        check.due("nobody's when missing", x.told(52), NONE);
        check.due("first one missing", x.rung(1, -1, -1, 1), NONE);
        check.due("both missing", x.told(4), (1 << 11) + 1);
        check.due("there again by rung", x.rung(12, 3, 2, 0), NONE);
        check.due("one missing", x.told(4), 1);
        check.due("the neighbour is untouched", x.told(51), NONE);
        x.man(4, 2, 5, 6);
        x.rung(6, -1, -1, 1);
        check.due("a missing rung keeps who stands on it", x.told(14), 6);
        check.due("bears says so too", x.bears(6, 2), 4);
    }

    private static void rungRefuses() {
        RungRights x = new RungRights();
        x.rung(3, 1, 2, 0);
        int[] badRungs = {0, 13, -1, LEAST, MOST};
        for (int rung : badRungs) {
            check.due("rung " + rung, x.rung(rung, -1, -1, 0), UNKNOWN);
        }
        int[] badMen = {6, -2, LEAST, MOST};
        for (int man : badMen) {
            check.due("owner " + man, x.rung(3, man, -1, 0), UNKNOWN);
            check.due("lease to " + man, x.rung(3, 0, man, 0), UNKNOWN);
            check.due("UNKNOWN is ahead of OUTSIDE", x.rung(3, man, -1, 7), UNKNOWN);
        }
        int[] badMissing = {-1, 2, LEAST, MOST};
        for (int missing : badMissing) {
            check.due("missing " + missing, x.rung(3, -1, -1, missing), OUTSIDE);
        }
        check.due("a nobody's one is not leased", x.rung(3, -1, 0, 0), OUTSIDE);
        check.due("his own one is not leased", x.rung(3, 4, 4, 0), OUTSIDE);
        check.due("a missing one is nobody's", x.rung(3, 4, -1, 1), OUTSIDE);
        check.due("a missing one is not leased", x.rung(3, 4, 2, 1), OUTSIDE);
        check.due("a missing nobody's one is not leased", x.rung(3, -1, 2, 1), OUTSIDE);
        check.due("still 1's", x.told(43), 1);
        check.due("still leased to 2", x.told(63), 2);
        check.due("still there", x.told(4), 0);
    }

    private static void manSets() {
        RungRights x = new RungRights();
        check.due("was on the ground with 5", x.man(0, 4, 99, 13), 5);
        check.due("stride", x.told(30), 4);
        check.due("coins", x.told(20), 99);
        check.due("place", x.told(10), 13);
        check.due("on the roof with 99", x.man(0, 1, 0, 7), 1399);
        check.due("stride 1", x.told(30), 1);
        check.due("no coins", x.told(20), 0);
        check.due("on 7 without", x.man(0, 2, 5, 0), 700);
        x.man(1, 2, 99, 3);
        x.rung(5, 1, -1, 0);
        Check.tell(x, "A%e");
        x.done();
        check.due("coins go beyond 99 by a lease", x.told(21), 100);
        check.due("told so", x.man(1, 2, 99, 3), 400);
        Check.tell(x, "AaBd");
        x.done();
        check.due("both have stepped", x.told(3), 3);
        x.man(1, 2, 5, 4);
        check.due("he has not stepped", x.told(3), 1);
        check.due("two on one place can be", x.man(2, 2, 5, 4), 5);
        check.due("on it", x.told(12), 4);
    }

    private static void manRefuses() {
        RungRights x = new RungRights();
        int[] badMen = {-1, 6, LEAST, MOST};
        for (int man : badMen) {
            check.due("man " + man, x.man(man, 2, 5, 0), UNKNOWN);
            check.due("UNKNOWN is ahead", x.man(man, 0, 5, 0), UNKNOWN);
        }
        int[] badStrides = {0, 5, -1, LEAST, MOST};
        for (int stride : badStrides) {
            check.due("stride " + stride, x.man(1, stride, 7, 3), OUTSIDE);
        }
        int[] badCoins = {-1, 100, LEAST, MOST};
        for (int coins : badCoins) {
            check.due("coins " + coins, x.man(1, 3, coins, 3), OUTSIDE);
        }
        int[] badPlaces = {-1, 14, LEAST, MOST};
        for (int place : badPlaces) {
            check.due("place " + place, x.man(1, 3, 7, place), OUTSIDE);
        }
        check.due("stride as it was", x.told(31), 2);
        check.due("coins as they were", x.told(21), 5);
        check.due("place as it was", x.told(11), 0);
    }

    private static void sayAndWipe() {
        RungRights x = new RungRights();
        int[] badSigns = {32, 127, 0, -1, 255, LEAST, MOST, 65536 + 65};
        for (int sign : badSigns) {
            check.due("say " + sign, x.say(sign), OUTSIDE);
        }
        check.due("nothing said", x.told(0), 0);
        check.due("first code", x.say(33), 1);
        check.due("last code", x.say(126), 2);
        check.due("wipe", x.wipe(), 2);
        check.due("wipe again", x.wipe(), 0);
        for (int i = 1; i <= 60; i++) {
            check.due("say " + i, x.say('.'), i);
        }
        check.due("full", x.say('.'), FULL);
        check.due("OUTSIDE is ahead of FULL", x.say(32), OUTSIDE);
        check.due("sixty", x.told(0), 60);
        check.due("sixty beats stand", x.fault(), NONE);
        check.due("sixty beats are done", x.done(), 60);
        check.due("the pad is empty then", x.told(0), 0);
        check.due("beat 60", x.told(1), 60);
    }

    private static void faults() {
        String[] good = {"", ".", "Aa", "Fl", "A^", "F_", "A%a", "F%l", "ka", "kl", "kk", "+a", "+k", "Ak", "A%k",
            "..Aa.ka+aA%bB_C^", "kkkl+l"};
        for (String text : good) {
            dueFault(text, NONE);
        }
        dueFault("A", 1);
        dueFault("A%", 2);
        dueFault("k", 1);
        dueFault("+", 1);
        dueFault(".A", 2);
        dueFault("AaB%", 4);
        dueFault("Am", 1);
        dueFault("A`", 1);
        dueFault("AA", 1);
        dueFault("A.", 1);
        dueFault("A+", 1);
        dueFault("A%m", 2);
        dueFault("A%%", 2);
        dueFault("A%^", 2);
        dueFault("A%_", 2);
        dueFault("k^", 1);
        dueFault("k_", 1);
        dueFault("k%", 1);
        dueFault("k%a", 1);
        dueFault("km", 1);
        dueFault("+^", 1);
        dueFault("+_", 1);
        dueFault("+%a", 1);
        dueFault("+A", 1);
        dueFault("G", 0);
        dueFault("@a", 0);
        dueFault("a", 0);
        dueFault("l", 0);
        dueFault("^", 0);
        dueFault("_", 0);
        dueFault("%", 0);
        dueFault("..z", 2);
        dueFault("AaGA", 2);
        dueFault("Aab", 2);
        StringBuilder brim = new StringBuilder();
        for (int i = 0; i < 59; i++) {
            brim.append('.');
        }
        dueFault(brim + "A", 60);
    }

    private static void dueFault(String text, int place) {
        RungRights x = new RungRights();
        Check.tell(x, text);
        check.due("fault of '" + text + "'", x.fault(), place);
        check.due("signs stay, '" + text + "'", x.told(0), text.length());
        if (place != NONE) {
            check.due("judge(0) of '" + text + "'", x.judge(0), RungRights.NO);
            check.due("judge(1) of '" + text + "'", x.judge(1), RungRights.NO);
            check.due("done of '" + text + "'", x.done(), RungRights.NO);
            check.due("behind of '" + text + "'", x.behind(0, 0), RungRights.NO);
            check.due("bears of '" + text + "'", x.bears(1, 0), RungRights.NO);
            check.due("then of '" + text + "'", x.then(0), RungRights.NO);
            check.due("signs stay when refused, '" + text + "'", x.told(0), text.length());
        }
    }
}
