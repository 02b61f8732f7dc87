import java.util.List;

/** A test of one sentence of the document: it names the promise and quotes the words that its answers must keep. */
final class Sentence {
    interface Call {
        long on(RungRights x);
    }

    interface Numbered {
        long on(RungRights x, int n);
    }

    private final Check check;
    private final String name;

    Sentence(Check check, Document document, int promise, String words) {
        this.check = check;
        name = "promise " + promise + " '" + words + "': ";
        check.holds(name + "these words stand in the document", document.quote(promise, words));
    }

    void due(String call, long got, long want) {
        check.due(name + call, got, want);
    }

    void holds(String what, boolean so) {
        check.holds(name + what, so);
    }

    /** In every scene the call answers so, and nothing that can be seen is other than without it. */
    void refuses(String call, long answer, Call made) {
        for (Scene scene : Scene.values()) {
            refusesIn(scene, call, answer, made);
        }
    }

    void refusesIn(Scene scene, String call, long answer, Call made) {
        RungRights x = scene.make();
        due(scene + " " + call, made.on(x), answer);
        dueSame(scene, call, x);
    }

    /** The first number on either side of those that are taken, and some that a cut or a turned sign would take. */
    void refusesBeyond(int least, int most, String call, long answer, Numbered made) {
        int[] beyond = {least - 1, most + 1, Integer.MIN_VALUE, Integer.MIN_VALUE + least, Integer.MAX_VALUE,
            least + 256, least + 65536, -1000000, 1000000};
        for (int n : beyond) {
            if (n < least || n > most) {
                refuses(call.replace("#", String.valueOf(n)), answer, x -> made.on(x, n));
            }
        }
    }

    void changesNothing(String call, Call made) {
        for (Scene scene : Scene.values()) {
            RungRights x = scene.make();
            made.on(x);
            dueSame(scene, call, x);
        }
    }

    private void dueSame(Scene scene, String call, RungRights x) {
        List<String> want = scene.shown();
        List<String> got = Shown.of(x);
        int i = 0;
        while (i < want.size() && got.get(i).equals(want.get(i))) {
            i++;
        }
        String seen = i < want.size() ? got.get(i) + ", was " + want.get(i) : "";
        check.holds(name + scene + " " + call + " changes nothing; " + seen, i == want.size());
    }
}
