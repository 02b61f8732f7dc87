import java.util.List;

/** Objects in the states in which calls are refused, or must change nothing. */
enum Scene {
    /** As it was made: nothing said, nothing felt, nothing kept. */
    FRESH(false, ""),

    /** Everything is other than at first, both images are kept, and a text stands that can be. */
    RICH(true, "B%iBf.Ci"),

    /** Likewise, and the pad and the sights are full. */
    BRIM(true, ".".repeat(60)),

    /** Likewise, and the text lacks a sign. */
    FAULTY(true, "Bf.A"),

    /** Likewise, and the text has an act that can not be. */
    STUCK(true, "Bf.kg");

    private final boolean isSettled;
    private final String text;
    private List<String> shown;

    Scene(boolean isSettled, String text) {
        this.isSettled = isSettled;
        this.text = text;
    }

    RungRights make() {
        RungRights x = new RungRights();
        if (isSettled) {
            settle(x);
        }
        for (int i = 0; this == BRIM && i < 8; i++) {
            x.felt(9, false);
        }
        for (int i = 0; i < text.length(); i++) {
            x.say(text.charAt(i));
        }
        return x;
    }

    /** What is seen of it if no call comes between. */
    List<String> shown() {
        if (shown == null) {
            shown = Shown.of(make());
        }
        return shown;
    }

    private static void settle(RungRights x) {
        x.rung(1, 0, -1, 0);
        x.rung(2, 1, 2, 0);
        x.rung(5, 5, 0, 0);
        x.rung(7, -1, -1, 1);
        x.rung(12, 3, 4, 0);
        x.man(0, 1, 0, 0);
        x.man(1, 2, 99, 2);
        x.man(2, 3, 7, 10);
        x.man(3, 4, 1, 13);
        x.man(4, 3, 6, 7);
        x.felt(3, true);
        x.felt(12, false);
        x.image(0);
        Check.tell(x, "...BdDk");
        x.done();
        x.image(1);
        x.rung(9, 2, -1, 0);
        x.man(5, 4, 17, 3);
        x.felt(1, true);
        Check.tell(x, ".Eh");
        x.done();
    }
}
