/** Promises 16 to 22: felt, forget, ups, ask, down, foot, year. */
public final class FeetTest {
    private static final int NONE = RungRights.NONE;
    private static final int UNKNOWN = RungRights.UNKNOWN;
    private static final int OUTSIDE = RungRights.OUTSIDE;
    private static final int FULL = RungRights.FULL;
    private static final long LOST = RungRights.LOST;
    private static final int LEAST = Integer.MIN_VALUE;
    private static final int MOST = Integer.MAX_VALUE;

    private static final Check check = new Check();

    public static void main(String[] args) {
        feltAndForget();
        upsFit();
        upsStandWhereTheyCanNotGoOn();
        asks();
        downs();
        feet();
        footRefuses();
        years();
        yearRefuses();
        check.end();
    }

    private static void feltAndForget() {
        RungRights x = new RungRights();
        int[] noRungs = {0, 13, -1, LEAST, MOST};
        for (int rung : noRungs) {
            check.due("felt " + rung, x.felt(rung, true), UNKNOWN);
        }
        for (int i = 1; i <= 8; i++) {
            check.due("sight " + i, x.felt(12, i % 2 == 0), i);
        }
        check.due("full", x.felt(1, true), FULL);
        check.due("UNKNOWN is ahead of FULL", x.felt(0, true), UNKNOWN);
        check.due("eight", x.told(5), 8);
        check.due("wet and dry at once: none", x.ups(-1), 0);
        check.due("forget", x.forget(), 8);
        check.due("gone", x.told(5), 0);
        check.due("all fit again", x.ups(-1), 12);
        check.due("forget again", x.forget(), 0);
    }

    private static void dueUps(RungRights x, int... codes) {
        check.due("ups(-1)", x.ups(-1), codes.length);
        for (int i = 0; i < codes.length; i++) {
            check.due("ups(" + i + ")", x.ups(i), codes[i]);
        }
        check.due("ups beyond", x.ups(codes.length), NONE);
        check.due("ups far beyond", x.ups(MOST), NONE);
        check.due("ups(-2)", x.ups(-2), NONE);
        check.due("ups(least)", x.ups(LEAST), NONE);
    }

    private static void upsFit() {
        RungRights x = new RungRights();
        dueUps(x, 0, 1, 10, 11, 20, 21, 30, 31, 40, 41, 50, 51);
        x.man(1, 3, 5, 13);
        x.man(2, 4, 5, 9);
        x.man(4, 1, 5, 0);
        x.felt(3, true);
        dueUps(x, 1, 10, 11, 21, 31, 40, 41, 51);
        x.felt(1, false);
        dueUps(x, 10);
        x.forget();
        x.felt(4, true);
        x.felt(2, false);
        dueUps(x, 20);
        x.forget();
        x.felt(12, false);
        dueUps(x);
        x.rung(12, 0, -1, 0);
        dueUps(x, 10, 11, 20, 21, 30, 31, 40, 41, 50, 51);
        x.forget();
        x.felt(12, true);
        dueUps(x, 0, 1);
    }

    private static void upsStandWhereTheyCanNotGoOn() {
        RungRights x = new RungRights();
        x.rung(5, -1, -1, 1);
        x.rung(6, 3, -1, 0);
        x.felt(4, true);
        x.felt(7, false);
        dueUps(x, 0, 1, 10, 11, 20, 21, 30, 40, 41, 50, 51);
        x.forget();
        x.felt(6, true);
        dueUps(x, 30, 31);
        x.felt(12, true);
        x.felt(7, false);
        dueUps(x, 30);
        x.man(0, 3, 5, 0);
        x.forget();
        x.felt(7, true);
        dueUps(x, 0, 1, 31);
    }

    private static void dueAsk(RungRights x, int rung, int most) {
        check.due("ask(0)", x.ask(0), rung);
        check.due("ask(1)", x.ask(1), most);
    }

    private static void asks() {
        RungRights x = new RungRights();
        dueAsk(x, 1, 6);
        x.rung(1, -1, -1, 1);
        dueAsk(x, 3, 6);
        x.man(0, 4, 5, 0);
        dueAsk(x, 3, 6);
        x.man(1, 4, 5, 0);
        x.man(2, 3, 5, 0);
        dueAsk(x, 5, 6);
        x.felt(2, false);
        dueAsk(x, 3, 2);
        x.felt(3, true);
        dueAsk(x, 1, 1);
        x.felt(3, false);
        dueAsk(x, NONE, NONE);
        int[] odd = {-1, 2, LEAST, MOST};
        for (int what : odd) {
            check.due("ask " + what, x.ask(what), OUTSIDE);
        }
    }

    private static void dueDown(int set, int wins, int move) {
        RungRights x = new RungRights();
        check.due("down(" + set + ", 0)", x.down(set, 0), wins);
        check.due("down(" + set + ", 1)", x.down(set, 1), move);
    }

    private static void downs() {
        dueDown(0, 0, NONE);
        dueDown(1, 0, NONE);
        dueDown(2048, 1, 1201);
        dueDown(4095, 0, NONE);
        dueDown(4094, 1, 201);
        dueDown(2 + 4, 0, NONE);
        dueDown(2 + 4 + 8, 1, 201);
        dueDown(1 + 4, 1, 302);
        dueDown(1 + 2048, 1, 1202);
        RungRights x = new RungRights();
        int[] badSets = {-1, 4096, LEAST, MOST};
        for (int set : badSets) {
            check.due("down of " + set, x.down(set, 0), OUTSIDE);
        }
        int[] badWhats = {-1, 2, LEAST, MOST};
        for (int what : badWhats) {
            check.due("down what " + what, x.down(3, what), OUTSIDE);
        }
    }

    private static void dueFoot(int s, int r, int what, long upper, long lower) {
        RungRights x = new RungRights();
        check.due("foot(" + s + ", " + r + ", " + what + ", 0)", x.foot(s, r, what, 0), upper);
        check.due("foot(" + s + ", " + r + ", " + what + ", 1)", x.foot(s, r, what, 1), lower);
    }

    private static void feet() {
        dueFoot(1, 1, 0, 1, 1);
        dueFoot(1, 12, 1, 12, 1);
        dueFoot(2, 3, 0, 5, 8);
        dueFoot(2, 3, 1, 9, 4);
        dueFoot(3, 1, 0, 1, 3);
        dueFoot(3, 2, 0, 4, 9);
        dueFoot(3, 3, 0, 16, 27);
        dueFoot(3, 3, 1, 16, 9);
        dueFoot(4, 1, 0, 1, 4);
        dueFoot(4, 4, 0, 125, 256);
        dueFoot(4, 5, 1, 625, 256);
        dueFoot(2, 12, 0, 2731, 4096);
    }

    private static void footRefuses() {
        RungRights x = new RungRights();
        int[] noRungs = {0, 13, -1, LEAST, MOST};
        for (int r : noRungs) {
            check.due("foot r " + r, x.foot(9, r, 9, 9), LOST + UNKNOWN);
        }
        int[] noStrides = {0, 5, -1, LEAST, MOST};
        for (int s : noStrides) {
            check.due("foot s " + s, x.foot(s, 1, 0, 0), LOST + OUTSIDE);
        }
        int[] odd = {-1, 2, LEAST, MOST};
        for (int n : odd) {
            check.due("foot what " + n, x.foot(1, 1, n, 0), LOST + OUTSIDE);
            check.due("foot part " + n, x.foot(1, 1, 0, n), LOST + OUTSIDE);
        }
    }

    /** By hand: 1 draws 149: man 5, of 24 left over by 8 the 0, z 3, down; then 11249, 57251, 33958. */
    private static void years() {
        RungRights x = new RungRights();
        x.man(5, 4, 5, 6);
        check.due("149: F steps down by 4", x.year(1, 1, 2), 1);
        x.rung(2, -1, -1, 1);
        check.due("onto a rung that is missing he does not", x.year(1, 1, 2), 0);
        x.man(5, 3, 5, 6);
        check.due("by 1 with a stride of 3", x.year(1, 1, 2), 1);
        x.rung(5, 0, -1, 0);
        check.due("onto another's he does not", x.year(1, 1, 2), 0);
        x.rung(5, -1, -1, 0);
        x.man(4, 3, 5, 5);
        check.due("onto one with a man he does not", x.year(1, 1, 2), 0);
        check.due("nothing is done", x.told(15), 6);
        x.man(5, 4, 5, 3);
        check.due("onto the ground at most", x.year(1, 1, 2), 1);
        x.man(5, 4, 5, 0);
        check.due("from the ground he does not", x.year(1, 1, 2), 0);
    }

    private static void yearRefuses() {
        RungRights x = new RungRights();
        int[] badSeeds = {-1, 10000, LEAST, MOST};
        for (int seed : badSeeds) {
            check.due("year of " + seed, x.year(seed, 1, 0), OUTSIDE);
        }
        int[] badActs = {0, 100, -1, LEAST, MOST};
        for (int m : badActs) {
            check.due("year of acts " + m, x.year(1, m, 0), OUTSIDE);
        }
        int[] badWhats = {-1, 3, LEAST, MOST};
        for (int what : badWhats) {
            check.due("year what " + what, x.year(1, 1, what), OUTSIDE);
        }
        check.due("the last seed, the most acts", x.year(9999, 99, 0) >= 0 ? 1 : 0, 1);
    }
}
