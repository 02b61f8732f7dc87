import java.util.List;

/** Objects in the states in which calls are refused, or must change nothing. */
enum Scene {
    /** As it was made: nothing said, nothing felt, nothing kept. */
    FRESH {
        @Override
        RungRights make() {
            return new RungRights();
        }
    },

    /** Everything is other than at first, both images are kept, and a text stands that can be. */
    RICH {
        @Override
        RungRights make() {
            RungRights x = new RungRights();
            settle(x);
            Check.tell(x, "B%iBf.Ci");
            return x;
        }
    },

    /** Likewise, and the pad and the sights are full. */
    BRIM {
        @Override
        RungRights make() {
            RungRights x = new RungRights();
            settle(x);
            Check.tell(x, ".".repeat(60));
            for (int i = x.told(5); i < 8; i++) {
                x.felt(9, false);
            }
            return x;
        }
    },

    /** Likewise, and the text lacks a sign. */
    FAULTY {
        @Override
        RungRights make() {
            RungRights x = new RungRights();
            settle(x);
            Check.tell(x, "Bf.A");
            return x;
        }
    },

    /** Likewise, and the text has an act that can not be. */
    STUCK {
        @Override
        RungRights make() {
            RungRights x = new RungRights();
            settle(x);
            Check.tell(x, "Bf.kg");
            return x;
        }
    };

    private List<String> shown;

    abstract RungRights make();

    /** What is seen of it if no call comes between. */
    List<String> shown() {
        if (shown == null) {
            shown = Shown.of(make());
        }
        return shown;
    }

    private static void settle(RungRights x) {
        x.rung(1, 0, -1, 0);
        x.rung(2, 1, 2, 0);
        x.rung(5, 5, 0, 0);
        x.rung(7, -1, -1, 1);
        x.rung(12, 3, 4, 0);
        x.man(0, 1, 0, 0);
        x.man(1, 2, 99, 2);
        x.man(2, 3, 7, 10);
        x.man(3, 4, 1, 13);
        x.man(4, 3, 6, 7);
        x.felt(3, true);
        x.felt(12, false);
        x.image(0);
        Check.tell(x, "...BdDk");
        x.done();
        x.image(1);
        x.rung(9, 2, -1, 0);
        x.man(5, 4, 17, 3);
        x.felt(1, true);
        Check.tell(x, ".Eh");
        x.done();
    }
}
