import java.math.BigInteger;

/** The edges of promises 20 and 21: down, foot. */
final class DownsEdges extends Edges {
    private static final int SETS = 4096;
    private static final int SETS_OF_AN_OBJECT = 256;

    DownsEdges(Check check, Document document) {
        super(check, document);
    }

    @Override
    void all() {
        promise20EmptyAndFull();
        promise20OneAlone();
        promise20NotPast();
        promise20WhoCanNotHasLost();
        promise20Outside();
        promise21OnIt();
        promise21TheMean();
        promise21LowestTerms();
        promise21Unknown();
        promise21Outside();
    }

    private void dueDown(Sentence s, int set, int wins, int move) {
        RungRights x = new RungRights();
        s.due("down(" + set + ", 0)", x.down(set, 0), wins);
        s.due("down(" + set + ", 1)", x.down(set, 1), move);
    }

    private void promise20EmptyAndFull() {
        Sentence s = says(20, "DOWN: whether (what = 0), what (1; NONE).");
        dueDown(s, 0, 0, NONE);
        dueDown(s, 4095, 0, NONE);
        dueDown(s, 4094, 1, 201);
        dueDown(s, 2047, 0, NONE);
        dueDown(s, 2048, 1, 1201);
        s.changesNothing("down(4094, 0)", x -> x.down(4094, 0));
        s.changesNothing("down(4094, 1)", x -> x.down(4094, 1));
    }

    private void promise20OneAlone() {
        Sentence s = says(20, "DOWN: some stand on RUNGS (a set, 0 to 4095, bit 0 the RUNG 1); two by turns bring "
            + "one of them down by some RUNGS, onto a RUNG");
        dueDown(s, 1, 0, NONE);
        for (int rung = 2; rung <= RUNGS; rung++) {
            dueDown(s, bit(rung), 1, 100 * rung + 1);
        }
    }

    private void promise20NotPast() {
        Sentence s = says(20, "not past another one, nor onto one with another one; who can not has lost");
        dueDown(s, bit(1) + bit(2), 0, NONE);
        dueDown(s, bit(2) + bit(3), 0, NONE);
        dueDown(s, bit(1) + bit(3), 1, 302);
        dueDown(s, bit(1) + bit(12), 1, 1202);
        dueDown(s, bit(11) + bit(12), 0, NONE);
        dueDown(s, bit(1) + bit(2) + bit(12), 1, 1203);
        dueDown(s, bit(2) + bit(11) + bit(12), 1, 201);
        for (int count = 1; count <= RUNGS; count++) {
            dueDown(s, (1 << count) - 1, 0, NONE);
        }
    }

    /** By the class's own answers, for every set: who begins wins just if one move leaves a set that loses. */
    private void promise20WhoCanNotHasLost() {
        Sentence s = says(20, "whether who begins can win (1, 0); what he does first for it: 100 times from which "
            + "RUNG, and onto which, the least (NONE)");
        int[] wins = new int[SETS];
        int[] moves = new int[SETS];
        for (int set = 0; set < SETS; set += SETS_OF_AN_OBJECT) {
            RungRights x = new RungRights();
            for (int i = set; i < set + SETS_OF_AN_OBJECT; i++) {
                wins[i] = x.down(i, 0);
                moves[i] = x.down(i, 1);
            }
        }
        for (int set = 0; set < SETS; set++) {
            int least = leastMove(set, wins);
            s.due("down(" + set + ", 0)", wins[set], least == NONE ? 0 : 1);
            s.due("down(" + set + ", 1)", moves[set], least);
        }
    }

    private static int leastMove(int set, int[] wins) {
        for (int from = 1; from <= RUNGS; from++) {
            for (int onto = 1; onto < from && (set & bit(from)) != 0; onto++) {
                int between = bit(from) - bit(onto);
                boolean free = (set & between) == 0;
                if (free && wins[set - bit(from) + bit(onto)] == 0) {
                    return 100 * from + onto;
                }
            }
        }
        return NONE;
    }

    private void promise20Outside() {
        Sentence s = says(20, "OUTSIDE.");
        s.refusesBeyond(0, 4095, "down(#, 0)", OUTSIDE, (x, n) -> x.down(n, 0));
        s.refusesBeyond(0, 4095, "down(#, 1)", OUTSIDE, (x, n) -> x.down(n, 1));
        s.refusesBeyond(0, 1, "down(0, #)", OUTSIDE, (x, n) -> x.down(0, n));
        s.refusesBeyond(0, 1, "down(4095, #)", OUTSIDE, (x, n) -> x.down(4095, n));
    }

    private void dueFoot(Sentence s, int stride, int rung, int what, long upper, long lower) {
        RungRights x = new RungRights();
        String call = "foot(" + stride + ", " + rung + ", " + what + ", ";
        s.due(call + "0)", x.foot(stride, rung, what, 0), upper);
        s.due(call + "1)", x.foot(stride, rung, what, 1), lower);
    }

    private void promise21OnIt() {
        Sentence s = says(21, "FOOT: with a STRIDE s (1 to 4) each step goes up 1 to s RUNGS, each as likely: that "
            + "one sets foot on RUNG r (1 to 12)");
        for (int rung = 1; rung <= RUNGS; rung++) {
            dueFoot(s, 1, rung, 0, 1, 1);
        }
        dueFoot(s, 2, 1, 0, 1, 2);
        dueFoot(s, 2, 12, 0, 2731, 4096);
        dueFoot(s, 3, 1, 0, 1, 3);
        dueFoot(s, 4, 1, 0, 1, 4);
        for (int stride = 1; stride <= 4; stride++) {
            for (int rung = 1; rung <= RUNGS; rung++) {
                BigInteger[] chance = chance(stride, rung);
                dueFoot(s, stride, rung, 0, chance[0].longValueExact(), chance[1].longValueExact());
            }
        }
    }

    private void promise21TheMean() {
        Sentence s = says(21, "how many steps it takes in the mean to come to RUNG r, or beyond it");
        for (int rung = 1; rung <= RUNGS; rung++) {
            dueFoot(s, 1, rung, 1, rung, 1);
        }
        for (int stride = 1; stride <= 4; stride++) {
            dueFoot(s, stride, 1, 1, 1, 1);
            BigInteger[] mean = {BigInteger.ZERO, BigInteger.ONE};
            for (int rung = 1; rung <= RUNGS; rung++) {
                mean = sum(mean, chance(stride, rung - 1));
                dueFoot(s, stride, rung, 1, mean[0].longValueExact(), mean[1].longValueExact());
            }
        }
    }

    /** By all rows of steps: each that comes onto the rung, by its own chance. */
    private static BigInteger[] chance(int stride, int rung) {
        if (rung == 0) {
            return new BigInteger[] {BigInteger.ONE, BigInteger.ONE};
        }
        BigInteger[] all = {BigInteger.ZERO, BigInteger.ONE};
        for (int far = 1; far <= Math.min(stride, rung); far++) {
            BigInteger[] rest = chance(stride, rung - far);
            all = sum(all, new BigInteger[] {rest[0], rest[1].multiply(BigInteger.valueOf(stride))});
        }
        return all;
    }

    private static BigInteger[] sum(BigInteger[] a, BigInteger[] b) {
        BigInteger upper = a[0].multiply(b[1]).add(b[0].multiply(a[1]));
        BigInteger lower = a[1].multiply(b[1]);
        BigInteger common = upper.gcd(lower);
        return new BigInteger[] {upper.divide(common), lower.divide(common)};
    }

    private void promise21LowestTerms() {
        Sentence s = says(21, "Fractions are told in lowest terms by part: 0 the upper, 1 the lower number; refused "
            + "with LOST and the refusal.");
        for (int stride = 1; stride <= 4; stride++) {
            RungRights x = new RungRights();
            for (int rung = 1; rung <= RUNGS; rung++) {
                for (int what = 0; what <= 1; what++) {
                    BigInteger upper = BigInteger.valueOf(x.foot(stride, rung, what, 0));
                    BigInteger lower = BigInteger.valueOf(x.foot(stride, rung, what, 1));
                    s.due("what both have in common", upper.gcd(lower).longValueExact(), 1);
                    s.holds("the lower number is above 0", lower.signum() > 0);
                    s.holds("the upper number is above 0", upper.signum() > 0);
                }
            }
        }
        s.due("LOST and UNKNOWN", new RungRights().foot(1, 0, 0, 0), -1000000000000000001L);
        s.due("LOST and OUTSIDE", new RungRights().foot(0, 1, 0, 0), -1000000000000000002L);
        s.changesNothing("foot(4, 12, 0, 0)", x -> x.foot(4, 12, 0, 0));
        s.changesNothing("foot(4, 12, 1, 1)", x -> x.foot(4, 12, 1, 1));
    }

    private void promise21Unknown() {
        Sentence s = says(21, "FOOT: on it (what = 0), the mean (1). UNKNOWN, as LOST and it: r");
        s.refusesBeyond(1, RUNGS, "foot(1, #, 0, 0)", LOST + UNKNOWN, (x, n) -> x.foot(1, n, 0, 0));
        s.refusesBeyond(1, RUNGS, "foot(4, #, 1, 1)", LOST + UNKNOWN, (x, n) -> x.foot(4, n, 1, 1));
    }

    private void promise21Outside() {
        Sentence s = says(21, "OUTSIDE.");
        s.refusesBeyond(1, 4, "foot(#, 1, 0, 0)", LOST + OUTSIDE, (x, n) -> x.foot(n, 1, 0, 0));
        s.refusesBeyond(1, 4, "foot(#, 12, 1, 1)", LOST + OUTSIDE, (x, n) -> x.foot(n, 12, 1, 1));
        s.refusesBeyond(0, 1, "foot(1, 1, #, 0)", LOST + OUTSIDE, (x, n) -> x.foot(1, 1, n, 0));
        s.refusesBeyond(0, 1, "foot(4, 12, #, 1)", LOST + OUTSIDE, (x, n) -> x.foot(4, 12, n, 1));
        s.refusesBeyond(0, 1, "foot(1, 1, 0, #)", LOST + OUTSIDE, (x, n) -> x.foot(1, 1, 0, n));
        s.refusesBeyond(0, 1, "foot(4, 12, 1, #)", LOST + OUTSIDE, (x, n) -> x.foot(4, 12, 1, n));
    }
}
