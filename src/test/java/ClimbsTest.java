/** Promises 12 to 15: climb, ways, leases, stand. */
public final class ClimbsTest {
    private static final int NONE = RungRights.NONE;
    private static final int UNKNOWN = RungRights.UNKNOWN;
    private static final int OUTSIDE = RungRights.OUTSIDE;
    private static final int LEAST = Integer.MIN_VALUE;
    private static final int MOST = Integer.MAX_VALUE;

    private static final Check check = new Check();

    public static void main(String[] args) {
        climbs();
        waysUp();
        leasesMore();
        stands();
        refusals();
        check.end();
    }

    private static void dueClimb(RungRights x, int man, int steps, int first) {
        check.due("climb(" + man + ", 0)", x.climb(man, 0), steps);
        check.due("climb(" + man + ", 1)", x.climb(man, 1), first);
    }

    private static void climbs() {
        RungRights x = new RungRights();
        dueClimb(x, 0, 7, 1);
        x.man(0, 3, 5, 0);
        dueClimb(x, 0, 5, 1);
        x.man(0, 4, 5, 1);
        dueClimb(x, 0, 3, 5);
        x.man(0, 4, 5, 12);
        dueClimb(x, 0, 1, 13);
        x.man(0, 4, 5, 13);
        dueClimb(x, 0, 0, NONE);
        x.man(0, 2, 5, 0);
        x.rung(6, -1, -1, 1);
        dueClimb(x, 0, 7, 1);
        x.rung(1, 3, -1, 0);
        dueClimb(x, 0, 7, 2);
        x.rung(7, -1, -1, 1);
        dueClimb(x, 0, NONE, NONE);
        x.man(0, 2, 5, 6);
        dueClimb(x, 0, 4, 8);
        x.man(0, 2, 5, 13);
        dueClimb(x, 0, 0, NONE);
        peopleAreNoHindrance();
        ownAndLeasedRungs();
    }

    private static void peopleAreNoHindrance() {
        RungRights x = new RungRights();
        x.man(0, 1, 5, 10);
        x.man(1, 2, 5, 11);
        x.man(2, 2, 5, 12);
        dueClimb(x, 0, 3, 11);
        Check.tell(x, "B^.Bk");
        x.done();
        dueClimb(x, 1, 1, 13);
    }

    private static void ownAndLeasedRungs() {
        RungRights x = new RungRights();
        x.man(0, 1, 5, 10);
        x.man(1, 1, 5, 10);
        x.man(2, 1, 5, 10);
        x.rung(11, 0, 1, 0);
        dueClimb(x, 0, 3, 11);
        dueClimb(x, 1, 3, 11);
        dueClimb(x, 2, NONE, NONE);
        check.due("his own, though leased", x.ways(0), 1);
        check.due("leased to him", x.ways(1), 1);
        check.due("neither", x.ways(2), 0);
    }

    private static void waysUp() {
        RungRights x = new RungRights();
        int[] whole = {1, 377, 1705, 2872};
        for (int stride = 1; stride <= 4; stride++) {
            x.man(3, stride, 5, 0);
            check.due("ways by " + stride, x.ways(3), whole[stride - 1]);
        }
        x.man(3, 2, 5, 11);
        check.due("ways from 11", x.ways(3), 2);
        x.rung(12, 1, -1, 0);
        check.due("without the last", x.ways(3), 1);
        x.man(3, 1, 5, 11);
        check.due("none", x.ways(3), 0);
        x.man(3, 1, 5, 13);
        check.due("on the roof", x.ways(3), 1);
    }

    private static void dueLeases(RungRights x, int man, int count, int which) {
        check.due("leases(" + man + ", 0)", x.leases(man, 0), count);
        check.due("leases(" + man + ", 1)", x.leases(man, 1), which);
    }

    private static void leasesMore() {
        RungRights x = new RungRights();
        dueLeases(x, 0, 0, 0);
        for (int rung = 1; rung <= 12; rung++) {
            x.rung(rung, 1, -1, 0);
        }
        dueLeases(x, 1, 0, 0);
        dueLeases(x, 0, 6, 1 + 4 + 16 + 64 + 256 + 1024);
        x.man(0, 4, 0, 0);
        dueLeases(x, 0, 3, 1 + 16 + 256);
        x.man(0, 3, 5, 0);
        dueLeases(x, 0, 4, 1 + 8 + 64 + 512);
        x.man(0, 1, 5, 0);
        dueLeases(x, 0, 12, 4095);
        x.man(0, 1, 5, 8);
        dueLeases(x, 0, 4, 256 + 512 + 1024 + 2048);
        x.rung(10, 1, 0, 0);
        dueLeases(x, 0, 3, 256 + 1024 + 2048);
        x.rung(11, 1, 3, 0);
        dueLeases(x, 0, NONE, NONE);
        x.man(0, 2, 5, 8);
        dueLeases(x, 0, 1, 2048);
        x.rung(12, -1, -1, 1);
        dueLeases(x, 0, NONE, NONE);
        x.man(0, 2, 5, 13);
        dueLeases(x, 0, 0, 0);
        check.due("nothing is leased by asking", x.told(71), 3);
        fewerIsAheadOfLower();
    }

    /** One lease of a high rung is better than two of low ones. */
    private static void fewerIsAheadOfLower() {
        RungRights x = new RungRights();
        x.man(0, 2, 5, 7);
        x.rung(8, 1, -1, 0);
        x.rung(9, 1, -1, 0);
        x.rung(10, 1, -1, 0);
        x.rung(11, -1, -1, 1);
        dueLeases(x, 0, 2, 128 + 512);
        x.rung(10, -1, -1, 0);
        dueLeases(x, 0, 1, 128);
        x.rung(8, -1, -1, 1);
        dueLeases(x, 0, 1, 256);
    }

    private static void dueStand(RungRights x, int count, int... rungs) {
        check.due("stand(-1)", x.stand(-1), count);
        for (int man = 0; man < 6; man++) {
            check.due("stand(" + man + ")", x.stand(man), rungs[man]);
        }
    }

    private static void stands() {
        RungRights x = new RungRights();
        dueStand(x, 6, 1, 2, 3, 4, 5, 6);
        x.rung(1, 5, -1, 0);
        dueStand(x, 6, 2, 3, 4, 5, 6, 1);
        x.man(0, 1, 0, 13);
        dueStand(x, 6, 2, 3, 4, 5, 6, 1);
        for (int rung = 1; rung <= 12; rung++) {
            x.rung(rung, -1, -1, 1);
        }
        dueStand(x, 0, NONE, NONE, NONE, NONE, NONE, NONE);
        x.rung(9, 2, 4, 0);
        dueStand(x, 1, NONE, NONE, 9, NONE, NONE, NONE);
        x.rung(10, 2, -1, 0);
        dueStand(x, 2, NONE, NONE, 10, NONE, 9, NONE);
        x.rung(3, -1, -1, 0);
        dueStand(x, 3, 3, NONE, 10, NONE, 9, NONE);
        x.rung(4, 0, 1, 0);
        dueStand(x, 4, 3, 4, 10, NONE, 9, NONE);
        x.rung(1, 0, -1, 0);
        dueStand(x, 5, 1, 4, 10, 3, 9, NONE);
        x.rung(12, 5, 3, 0);
        dueStand(x, 6, 1, 4, 10, 3, 9, 12);
        x.rung(2, 5, 4, 0);
        dueStand(x, 6, 1, 3, 10, 12, 9, 2);
    }

    private static void refusals() {
        RungRights x = new RungRights();
        int[] noMen = {-1, 6, LEAST, MOST};
        for (int man : noMen) {
            check.due("climb man " + man, x.climb(man, 5), UNKNOWN);
            check.due("ways man " + man, x.ways(man), UNKNOWN);
            check.due("leases man " + man, x.leases(man, 5), UNKNOWN);
        }
        int[] noWhats = {-1, 2, LEAST, MOST};
        for (int what : noWhats) {
            check.due("climb what " + what, x.climb(0, what), OUTSIDE);
            check.due("leases what " + what, x.leases(0, what), OUTSIDE);
        }
        int[] nobody = {-2, 6, LEAST, MOST};
        for (int man : nobody) {
            check.due("stand " + man, x.stand(man), UNKNOWN);
        }
    }
}
