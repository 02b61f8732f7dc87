import java.util.ArrayList;
import java.util.List;

/**
 * All that can be seen of an object, row by row: two objects with the same rows are in the same state. The images
 * and a faulty pad can only be seen by changing what is now, so the object is used up by this (some 280 calls).
 */
final class Shown {
    private final RungRights x;
    private final List<String> rows = new ArrayList<>();

    private Shown(RungRights x) {
        this.x = x;
    }

    static List<String> of(RungRights x) {
        Shown shown = new Shown(x);
        shown.now("");
        shown.fires();
        shown.images();
        shown.oneSignMore();
        return shown.rows;
    }

    /** What is told of rungs, men and the beat, without using the object up. */
    static List<String> toldOf(RungRights x) {
        Shown shown = new Shown(x);
        shown.told("");
        return shown.rows;
    }

    private void row(String call, long answer) {
        rows.add(call + " = " + answer);
    }

    private void told(String when) {
        for (int what = 0; what <= 72; what++) {
            if (what <= 5 || what >= 10 && what < 40 && what % 10 <= 5 || what >= 41 && what <= 52 || what >= 61) {
                row(when + "told(" + what + ")", x.told(what));
            }
        }
    }

    private void now(String when) {
        told(when);
        for (int i = -1; i < 12; i++) {
            row(when + "ups(" + i + ")", x.ups(i));
        }
        row(when + "ask(0)", x.ask(0));
        row(when + "ask(1)", x.ask(1));
    }

    private void fires() {
        row("fault()", x.fault());
        row("judge(0)", x.judge(0));
        row("judge(1)", x.judge(1));
        for (int what = 0; what <= 5; what++) {
            row("then(" + what + ")", x.then(what));
        }
        for (int what = 0; what <= 3; what++) {
            for (int man = 0; man <= 5; man++) {
                row("behind(" + man + ", " + what + ")", x.behind(man, what));
            }
            for (int rung = 1; rung <= 12; rung++) {
                row("bears(" + rung + ", " + what + ")", x.bears(rung, what));
            }
        }
    }

    private void images() {
        for (int n = 0; n <= 1; n++) {
            row("restore(" + n + ")", x.restore(n));
            now("behind restore(" + n + "): ");
        }
    }

    /** A text that lacks a sign tells by this who begins its last act. */
    private void oneSignMore() {
        row("say('a')", x.say('a'));
        row("behind it fault()", x.fault());
        row("behind it judge(0)", x.judge(0));
        row("behind it judge(1)", x.judge(1));
        for (int man = 0; man <= 5; man++) {
            row("behind it behind(" + man + ", 0)", x.behind(man, 0));
        }
    }
}
