import java.util.Random;

/** Long runs of drawn calls (the seed is fixed), each answered by the class and by the model. */
public final class ModelTest {
    private static final int RUNS = 500;
    /** An object is for 512 calls; the longest fire that is drawn takes 104 of them. */
    private static final int CALLS = 512 - 104;
    private static final int[] EDGES = {Integer.MIN_VALUE, -1000000, -7, -6, -2, -1, 0, 1, 2, 3, 4, 5, 6, 7, 12, 13,
        14, 32, 33, 60, 99, 100, 126, 127, 4095, 4096, 9999, 10000, Integer.MAX_VALUE - 1, Integer.MAX_VALUE};

    private final Check check = new Check();
    private final Random random = new Random(20261117);
    private RungRights x;
    private Model model;
    private int calls;
    private int run;

    public static void main(String[] args) {
        ModelTest test = new ModelTest();
        test.allOfDown();
        test.allOfFoot();
        for (test.run = 0; test.run < RUNS && test.check.wrongs() == 0; test.run++) {
            test.drawnRun();
        }
        test.check.end();
    }

    private void allOfDown() {
        for (int set = 0; set < 4096; set++) {
            if (set % 256 == 0) {
                begin();
            }
            due("down(" + set + ", 0)", x.down(set, 0), model.down(set, 0));
            due("down(" + set + ", 1)", x.down(set, 1), model.down(set, 1));
        }
    }

    private void allOfFoot() {
        for (int s = 0; s <= 5; s++) {
            begin();
            for (int r = 0; r <= 13; r++) {
                for (int rest = 0; rest < 9; rest++) {
                    String call = "foot(" + s + ", " + r + ", " + rest / 3 + ", " + rest % 3 + ")";
                    due(call, x.foot(s, r, rest / 3, rest % 3), model.foot(s, r, rest / 3, rest % 3));
                }
            }
        }
    }

    private void begin() {
        x = new RungRights();
        model = new Model();
        calls = 0;
    }

    private void due(String call, long got, long want) {
        calls++;
        check.due("run " + run + ", call " + calls + ": " + call, got, want);
    }

    private void drawnRun() {
        begin();
        int settle = random.nextInt(40);
        for (int i = 0; i < settle; i++) {
            setSomething();
        }
        while (calls < CALLS && check.wrongs() == 0) {
            switch (random.nextInt(10)) {
                case 0:
                    setSomething();
                    break;
                case 1:
                case 2:
                case 3:
                    tellAFire();
                    break;
                case 4:
                case 5:
                    askOfClimbs();
                    break;
                case 6:
                case 7:
                    askOfTrails();
                    break;
                case 8:
                    keepAndTell();
                    break;
                default:
                    anyCall();
                    break;
            }
        }
    }

    /** Mostly a number within bounds, now and then an odd one. */
    private int number(int least, int most) {
        if (random.nextInt(25) == 0) {
            return EDGES[random.nextInt(EDGES.length)];
        }
        return least + random.nextInt(most - least + 1);
    }

    private void setSomething() {
        if (random.nextBoolean()) {
            int rung = number(1, 12);
            int owner = number(-1, 5);
            int lease = random.nextInt(3) == 0 ? number(-1, 5) : -1;
            int missing = random.nextInt(5) == 0 ? 1 : number(0, 0);
            if (missing == 1 && random.nextInt(4) != 0) {
                owner = -1;
                lease = -1;
            }
            due("rung(" + rung + ", " + owner + ", " + lease + ", " + missing + ")",
                x.rung(rung, owner, lease, missing), model.rung(rung, owner, lease, missing));
        } else {
            int man = number(0, 5);
            int stride = number(1, 4);
            int coins = random.nextInt(3) == 0 ? number(0, 99) : number(0, 2);
            int place = random.nextInt(3) == 0 ? number(9, 13) : number(0, 13);
            due("man(" + man + ", " + stride + ", " + coins + ", " + place + ")",
                x.man(man, stride, coins, place), model.man(man, stride, coins, place));
        }
    }

    private void tellAFire() {
        if (random.nextInt(3) == 0) {
            due("wipe()", x.wipe(), model.wipe());
        }
        int acts = random.nextInt(random.nextInt(6) == 0 ? 30 : 6);
        for (int i = 0; i < acts; i++) {
            sayAll(drawnAct());
        }
        askOfFires();
        if (random.nextInt(4) != 0) {
            due("done()", x.done(), model.done());
        }
    }

    private void sayAll(String text) {
        for (int i = 0; i < text.length(); i++) {
            due("say(" + text.charAt(i) + ")", x.say(text.charAt(i)), model.say(text.charAt(i)));
        }
    }

    /** Steps are drawn near to where he is, so that many of them can be. */
    private String drawnAct() {
        int man = random.nextInt(6);
        char who = (char) ('A' + man);
        char rung = (char) ('a' + random.nextInt(12));
        switch (random.nextInt(12)) {
            case 0:
            case 1:
                return ".";
            case 2:
                return "k" + rung;
            case 3:
                return "+" + rung;
            case 4:
                return who + "%" + rung;
            case 5:
                return random.nextInt(6) == 0 ? String.valueOf((char) (33 + random.nextInt(94))) : ".";
            default:
                int to = model.told(10 + man) + random.nextInt(7) - 3;
                return who + (to <= 0 ? "_" : to >= 13 ? "^" : String.valueOf((char) ('a' + to - 1)));
        }
    }

    private void askOfFires() {
        due("fault()", x.fault(), model.fault());
        due("judge(0)", x.judge(0), model.judge(0));
        due("judge(1)", x.judge(1), model.judge(1));
        for (int i = 0; i < 4; i++) {
            int n = number(0, 5);
            int rung = number(1, 12);
            int what = number(0, 3);
            due("behind(" + n + ", " + what + ")", x.behind(n, what), model.behind(n, what));
            due("bears(" + rung + ", " + what + ")", x.bears(rung, what), model.bears(rung, what));
            due("then(" + n + ")", x.then(n), model.then(n));
        }
    }

    private void askOfClimbs() {
        int man = number(0, 5);
        int what = number(0, 1);
        due("climb(" + man + ", " + what + ")", x.climb(man, what), model.climb(man, what));
        due("ways(" + man + ")", x.ways(man), model.ways(man));
        due("leases(" + man + ", " + what + ")", x.leases(man, what), model.leases(man, what));
        int post = number(-1, 5);
        due("stand(" + post + ")", x.stand(post), model.stand(post));
    }

    private void askOfTrails() {
        if (random.nextInt(3) == 0) {
            int rung = number(1, 12);
            boolean wet = random.nextBoolean();
            due("felt(" + rung + ", " + wet + ")", x.felt(rung, wet), model.felt(rung, wet));
        } else if (random.nextInt(5) == 0) {
            due("forget()", x.forget(), model.forget());
        }
        int i = number(-1, 12);
        int what = number(0, 1);
        due("ups(" + i + ")", x.ups(i), model.ups(i));
        due("ask(" + what + ")", x.ask(what), model.ask(what));
        int seed = number(0, 9999);
        int m = number(1, 99);
        int which = number(0, 2);
        due("year(" + seed + ", " + m + ", " + which + ")", x.year(seed, m, which), model.year(seed, m, which));
    }

    private void keepAndTell() {
        int n = number(0, 1);
        if (random.nextBoolean()) {
            due("image(" + n + ")", x.image(n), model.image(n));
        } else {
            due("restore(" + n + ")", x.restore(n), model.restore(n));
        }
        for (int i = 0; i < 6; i++) {
            int what = number(0, 80);
            due("told(" + what + ")", x.told(what), model.told(what));
        }
    }

    private int odd() {
        return EDGES[random.nextInt(EDGES.length)];
    }

    /** Numbers of all kinds: whatever comes, the class answers. */
    private void anyCall() {
        int a = odd();
        int b = odd();
        int c = odd();
        int d = odd();
        String four = "(" + a + ", " + b + ", " + c + ", " + d + ")";
        switch (random.nextInt(12)) {
            case 0:
                due("rung" + four, x.rung(a, b, c, d), model.rung(a, b, c, d));
                break;
            case 1:
                due("man" + four, x.man(a, b, c, d), model.man(a, b, c, d));
                break;
            case 2:
                due("behind" + four, x.behind(a, b), model.behind(a, b));
                break;
            case 3:
                due("bears" + four, x.bears(a, b), model.bears(a, b));
                break;
            case 4:
                due("climb" + four, x.climb(a, b), model.climb(a, b));
                break;
            case 5:
                due("leases" + four, x.leases(a, b), model.leases(a, b));
                break;
            case 6:
                due("foot" + four, x.foot(a, b, c, d), model.foot(a, b, c, d));
                break;
            case 7:
                due("year" + four, x.year(a, b, c), model.year(a, b, c));
                break;
            case 8:
                due("down" + four, x.down(a, b), model.down(a, b));
                break;
            case 9:
                due("say" + four, x.say(a), model.say(a));
                due("stand" + four, x.stand(a), model.stand(a));
                break;
            case 10:
                due("told" + four, x.told(a), model.told(a));
                due("ups" + four, x.ups(a), model.ups(a));
                break;
            default:
                due("judge" + four, x.judge(a), model.judge(a));
                due("then" + four, x.then(a), model.then(a));
                break;
        }
    }
}
