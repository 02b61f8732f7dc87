/** Promises 23 to 25: image, restore, told. */
public final class ImagesTest {
    private static final int NONE = RungRights.NONE;
    private static final int OUTSIDE = RungRights.OUTSIDE;
    private static final int STATE = RungRights.STATE;
    private static final int LEAST = Integer.MIN_VALUE;
    private static final int MOST = Integer.MAX_VALUE;

    private static final Check check = new Check();

    public static void main(String[] args) {
        refusals();
        allButThePadIsKept();
        imagesStandApart();
        toldTells();
        toldRefuses();
        check.end();
    }

    private static void refusals() {
        RungRights x = new RungRights();
        int[] odd = {-1, 2, LEAST, MOST};
        for (int n : odd) {
            check.due("image " + n, x.image(n), OUTSIDE);
            check.due("restore " + n, x.restore(n), OUTSIDE);
        }
        check.due("image 1", x.image(1), 1);
        check.due("0 was not kept", x.restore(0), STATE);
        check.due("1 was", x.restore(1), 1);
        check.due("0 still was not", x.restore(0), STATE);
    }

    private static RungRights scene() {
        RungRights x = new RungRights();
        x.rung(3, 1, 2, 0);
        x.rung(7, -1, -1, 1);
        x.man(0, 4, 17, 0);
        x.man(5, 3, 1, 13);
        Check.tell(x, "..AbFl");
        x.done();
        x.felt(2, true);
        x.felt(3, false);
        return x;
    }

    private static void allButThePadIsKept() {
        RungRights x = scene();
        int[] before = allTold(x);
        Check.tell(x, "Ad");
        check.due("image", x.image(0), 1);
        check.due("the image leaves the pad", x.told(0), 2);
        Check.tell(x, "+gFa");
        x.wipe();
        Check.tell(x, ".A%cka+g");
        x.rung(3, 4, -1, 0);
        check.due("done", x.done(), 4);
        x.man(3, 1, 1, 1);
        x.forget();
        x.felt(9, true);
        Check.tell(x, "Zu");
        check.due("restore", x.restore(0), 1);
        check.due("the pad is as it is now", x.told(0), 2);
        check.due("and its signs", x.fault(), 0);
        x.wipe();
        dueAllTold(x, before);
        check.due("sights are what they were", x.ups(-1), upsOf(scene()));
        check.due("forget", x.forget(), 2);
        check.due("restore again", x.restore(0), 1);
        dueAllTold(x, before);
        check.due("wet and dry as they were", x.ups(-1), upsOf(scene()));
    }

    private static int upsOf(RungRights x) {
        return x.ups(-1);
    }

    private static void imagesStandApart() {
        RungRights x = new RungRights();
        x.image(0);
        x.man(0, 4, 17, 9);
        x.image(1);
        x.man(0, 1, 1, 1);
        x.restore(0);
        check.due("0: the place", x.told(10), 0);
        x.restore(1);
        check.due("1: the place", x.told(10), 9);
        x.man(0, 1, 1, 1);
        x.restore(1);
        check.due("1 is not changed by what comes behind it", x.told(10), 9);
        x.rung(1, 5, -1, 0);
        x.image(0);
        x.rung(1, -1, -1, 0);
        x.restore(0);
        check.due("0 is kept anew", x.told(41), 5);
        check.due("and all of it", x.told(10), 9);
        x.restore(1);
        check.due("1 has no such rung", x.told(41), NONE);
    }

    private static int[] allTold(RungRights x) {
        int[] all = new int[80];
        for (int what = 0; what < 80; what++) {
            all[what] = x.told(what);
        }
        return all;
    }

    private static void dueAllTold(RungRights x, int[] all) {
        for (int what = 0; what < 80; what++) {
            check.due("told(" + what + ")", x.told(what), all[what]);
        }
    }

    private static void toldTells() {
        RungRights x = scene();
        check.due("the pad", x.told(0), 0);
        x.say('A');
        check.due("a sign", x.told(0), 1);
        check.due("the beat", x.told(1), 2);
        check.due("F is off the roof", x.told(2), 0);
        check.due("A and F", x.told(3), 33);
        check.due("g", x.told(4), 64);
        check.due("sights", x.told(5), 2);
        check.due("A's place", x.told(10), 2);
        check.due("F's place", x.told(15), 12);
        check.due("A's coins", x.told(20), 17);
        check.due("F's coins", x.told(25), 1);
        check.due("A's stride", x.told(30), 4);
        check.due("F's stride", x.told(35), 3);
        check.due("c's owner", x.told(43), 1);
        check.due("c's lease", x.told(63), 2);
        check.due("a's owner", x.told(41), NONE);
        check.due("l's lease", x.told(72), NONE);
        x.man(2, 1, 5, 13);
        x.man(4, 1, 5, 13);
        check.due("on the roof", x.told(2), 4 + 16);
    }

    private static void toldRefuses() {
        RungRights x = scene();
        int[] odd = {-1, 6, 9, 16, 19, 26, 29, 36, 39, 40, 53, 59, 60, 73, 80, 100, LEAST, MOST};
        for (int what : odd) {
            check.due("told " + what, x.told(what), OUTSIDE);
        }
    }
}
