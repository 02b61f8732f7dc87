/** Compares answers with those that are due, tells every wrong one, and ends the test by them. */
final class Check {
    private int wrong = 0;
    private int asked = 0;

    void due(String call, long got, long want) {
        asked++;
        if (got != want) {
            wrong++;
            if (wrong <= 50) {
                System.out.println(call + " answered " + got + ", due is " + want);
            }
        }
    }

    void holds(String what, boolean so) {
        asked++;
        if (!so) {
            wrong++;
            System.out.println("not so: " + what);
        }
    }

    int wrongs() {
        return wrong;
    }

    void end() {
        System.out.println(asked + " answers, " + wrong + " wrong");
        if (wrong != 0) {
            System.exit(1);
        }
    }

    /** Says a text, sign by sign, on a pad that is wiped first. */
    static void tell(RungRights x, String text) {
        x.wipe();
        for (int i = 0; i < text.length(); i++) {
            x.say(text.charAt(i));
        }
    }
}
