/** What the tests of the document's edges share. */
abstract class Edges {
    static final int NONE = RungRights.NONE;
    static final int UNKNOWN = RungRights.UNKNOWN;
    static final int OUTSIDE = RungRights.OUTSIDE;
    static final int STATE = RungRights.STATE;
    static final int FULL = RungRights.FULL;
    static final int NO = RungRights.NO;
    static final long LOST = RungRights.LOST;
    static final int LEAST = Integer.MIN_VALUE;
    static final int MOST = Integer.MAX_VALUE;
    static final int MEN = 6;
    static final int RUNGS = 12;
    static final int ROOF = 13;

    private final Check check;
    private final Document document;

    Edges(Check check, Document document) {
        this.check = check;
        this.document = document;
    }

    abstract void all();

    Sentence says(int promise, String words) {
        return new Sentence(check, document, promise, words);
    }

    static void dueJudged(Sentence s, RungRights x, String text, int act, int why) {
        Check.tell(x, text);
        s.due("judge(0) of '" + text + "'", x.judge(0), act);
        s.due("judge(1) of '" + text + "'", x.judge(1), why);
    }

    static RungRights standing(int man, int stride, int place) {
        RungRights x = new RungRights();
        x.man(man, stride, 5, place);
        return x;
    }

    static RungRights told(String text) {
        RungRights x = new RungRights();
        Check.tell(x, text);
        return x;
    }

    static void doneWith(RungRights x, String text) {
        Check.tell(x, text);
        x.done();
    }

    static void missing(RungRights x, int first, int last) {
        for (int rung = first; rung <= last; rung++) {
            x.rung(rung, -1, -1, 1);
        }
    }

    static void owned(RungRights x, int owner, int first, int last) {
        for (int rung = first; rung <= last; rung++) {
            x.rung(rung, owner, -1, 0);
        }
    }

    static RungRights atBeat(int beat) {
        RungRights x = new RungRights();
        for (int left = beat; left > 0; left -= 60) {
            doneWith(x, ".".repeat(Math.min(left, 60)));
        }
        return x;
    }

    static char man(int man) {
        return (char) ('A' + man);
    }

    static char place(int place) {
        return place == 0 ? '_' : place == ROOF ? '^' : (char) ('a' + place - 1);
    }

    static int bit(int rung) {
        return 1 << (rung - 1);
    }
}
