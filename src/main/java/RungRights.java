import java.util.Arrays;

/**
 * The one ladder of a fire brigade: rungs by whose they are and by who leases them, men by stride
 * and coin, fires told as small texts, and what can be asked of all that.
 *
 * Everything a call needs is made by the constructor and used again: all runs share one small room,
 * so no call makes an object but image(n), once for each n.
 */
public final class RungRights {
    public static final int NONE = -6, UNKNOWN = -1, OUTSIDE = -2, STATE = -3, FULL = -4, NO = -5;
    public static final long LOST = -1000000000000000000L;

    private static final int RUNGS = 12;
    private static final int ALL_RUNGS = (1 << RUNGS) - 1;
    private static final int GROUND = 0;
    private static final int ROOF = RUNGS + 1;
    private static final int MEN = 6;
    private static final int NOBODY = -1;
    private static final int LONGEST_STRIDE = 4;
    private static final int MOST_COINS_TOLD = 99;
    private static final int LAST_BEAT = 99;
    private static final int MOST_SIGHTS = 8;
    private static final int MOST_SIGNS = 60;
    private static final int IMAGES = 2;

    private final Brigade brigade;
    private final Pad pad;
    private final Act act;
    private final Fire fire;
    private final Routes routes;
    private final Posts posts;
    private final Trails trails;
    private final Feet feet;
    private final Brigade[] images;

    public RungRights() {
        brigade = new Brigade();
        pad = new Pad();
        act = new Act();
        fire = new Fire();
        routes = new Routes();
        posts = new Posts();
        trails = new Trails();
        feet = new Feet();
        images = new Brigade[IMAGES];
    }

    // ---- 1 rungs, men, fires

    public int rung(int rung, int owner, int lease, int missing) {
        if (!isRung(rung) || !isManOrNobody(owner) || !isManOrNobody(lease)) {
            return UNKNOWN;
        }
        if (!rightsFit(owner, lease, missing)) {
            return OUTSIDE;
        }
        int before = brigade.ownerOf(rung);
        brigade.setRung(rung, owner, lease, missing == 1);
        return orNone(before);
    }

    public int man(int man, int stride, int coins, int place) {
        if (!isMan(man)) {
            return UNKNOWN;
        }
        if (!within(stride, 1, LONGEST_STRIDE) || !within(coins, 0, MOST_COINS_TOLD) || !isPlace(place)) {
            return OUTSIDE;
        }
        int before = 100 * brigade.placeOf(man) + brigade.coinsOf(man);
        brigade.setMan(man, stride, coins, place);
        return before;
    }

    public int say(int sign) {
        if (!within(sign, 33, 126)) {
            return OUTSIDE;
        }
        return pad.add(sign) ? pad.size() : FULL;
    }

    public int wipe() {
        int before = pad.size();
        pad.clear();
        return before;
    }

    public int fault() {
        return pad.firstFault();
    }

    // ---- 2 fires

    public int judge(int what) {
        if (!within(what, 0, 1)) {
            return OUTSIDE;
        }
        if (pad.firstFault() != NONE) {
            return NO;
        }
        if (fire.burn(pad, brigade)) {
            return NONE;
        }
        return what == 0 ? fire.actsDone() : fire.reason();
    }

    public int done() {
        if (!fire.burn(pad, brigade)) {
            return NO;
        }
        brigade.copyFrom(fire.behindIt());
        pad.clear();
        return fire.actsDone();
    }

    public int behind(int man, int what) {
        if (!isMan(man)) {
            return UNKNOWN;
        }
        if (!within(what, 0, 3)) {
            return OUTSIDE;
        }
        if (!fire.burn(pad, brigade)) {
            return NO;
        }
        Brigade after = fire.behindIt();
        switch (what) {
            case 0:
                return after.placeOf(man);
            case 1:
                return after.coinsOf(man);
            case 2:
                return after.rungsOpenTo(man);
            default:
                return after.hasStepped(man) ? 1 : 0;
        }
    }

    public int bears(int rung, int what) {
        if (!isRung(rung)) {
            return UNKNOWN;
        }
        if (!within(what, 0, 3)) {
            return OUTSIDE;
        }
        if (!fire.burn(pad, brigade)) {
            return NO;
        }
        Brigade after = fire.behindIt();
        switch (what) {
            case 0:
                return orNone(after.ownerOf(rung));
            case 1:
                return orNone(after.leaserOf(rung));
            case 2:
                return orNone(after.firstManOn(rung));
            default:
                return after.isMissing(rung) ? 1 : 0;
        }
    }

    public int then(int what) {
        if (!within(what, 0, 5)) {
            return OUTSIDE;
        }
        if (!fire.burn(pad, brigade)) {
            return NO;
        }
        switch (what) {
            case 0:
                return fire.behindIt().beatNow();
            case 1:
                return fire.behindIt().menOnRoof();
            case 2:
                return fire.stepsMade();
            case 3:
                return fire.coinsPaid();
            case 4:
                return fire.firstActUp();
            default:
                return fire.firstManUp();
        }
    }

    // ---- 3 climbs, leases

    public int climb(int man, int what) {
        if (!isMan(man)) {
            return UNKNOWN;
        }
        if (!within(what, 0, 1)) {
            return OUTSIDE;
        }
        return what == 0 ? routes.fewestSteps(brigade, man) : routes.firstStep(brigade, man);
    }

    public int ways(int man) {
        if (!isMan(man)) {
            return UNKNOWN;
        }
        return routes.countUp(brigade, man);
    }

    public int leases(int man, int what) {
        if (!isMan(man)) {
            return UNKNOWN;
        }
        if (!within(what, 0, 1)) {
            return OUTSIDE;
        }
        return what == 0 ? routes.fewestLeases(brigade, man) : routes.leastLeased(brigade, man);
    }

    public int stand(int man) {
        if (!isManOrNobody(man)) {
            return UNKNOWN;
        }
        posts.assign(brigade);
        return man == NOBODY ? posts.menPosted() : posts.rungOf(man);
    }

    // ---- 4 ups, downs, feet

    public int felt(int rung, boolean wet) {
        if (!isRung(rung)) {
            return UNKNOWN;
        }
        return brigade.addSight(rung, wet) ? brigade.sightCount() : FULL;
    }

    public int forget() {
        int before = brigade.sightCount();
        brigade.clearSights();
        return before;
    }

    public int ups(int i) {
        trails.find(brigade);
        return i == -1 ? trails.size() : trails.codeAt(i);
    }

    public int ask(int what) {
        if (!within(what, 0, 1)) {
            return OUTSIDE;
        }
        trails.find(brigade);
        if (trails.size() == 0) {
            return NONE;
        }
        int next = trails.rungToFeel();
        return what == 0 ? next : trails.mostLeftBy(next);
    }

    public int down(int set, int what) {
        if (!within(set, 0, ALL_RUNGS) || !within(what, 0, 1)) {
            return OUTSIDE;
        }
        if (what == 0) {
            return Descents.canWin(set) ? 1 : 0;
        }
        return Descents.leastWinningMove(set);
    }

    public long foot(int s, int r, int what, int part) {
        if (!isRung(r)) {
            return LOST + UNKNOWN;
        }
        if (!within(s, 1, LONGEST_STRIDE) || !within(what, 0, 1) || !within(part, 0, 1)) {
            return LOST + OUTSIDE;
        }
        if (what == 0) {
            feet.chanceOn(s, r);
        } else {
            feet.meanStepsTo(s, r);
        }
        return part == 0 ? feet.upperNumber() : feet.lowerNumber();
    }

    public int year(int seed, int m, int what) {
        if (!within(seed, 0, 9999) || !within(m, 1, 99) || !within(what, 0, 2)) {
            return OUTSIDE;
        }
        passYear(seed, m);
        switch (what) {
            case 0:
                return fire.behindIt().menOnRoof();
            case 1:
                return fire.behindIt().coinsOf(0);
            default:
                return fire.stepsMade();
        }
    }

    public int image(int n) {
        if (!isImage(n)) {
            return OUTSIDE;
        }
        if (images[n] == null) {
            images[n] = new Brigade();
        }
        images[n].copyFrom(brigade);
        return 1;
    }

    public int restore(int n) {
        if (!isImage(n)) {
            return OUTSIDE;
        }
        if (images[n] == null) {
            return STATE;
        }
        brigade.copyFrom(images[n]);
        return 1;
    }

    public int told(int what) {
        switch (what) {
            case 0:
                return pad.size();
            case 1:
                return brigade.beatNow();
            case 2:
                return brigade.menOnRoof();
            case 3:
                return brigade.menStepped();
            case 4:
                return brigade.rungsMissing();
            case 5:
                return brigade.sightCount();
            default:
                return within(what, 10, 39) ? toldOfMan(what / 10, what % 10) : toldOfRung(what);
        }
    }

    private int toldOfMan(int tens, int man) {
        if (!isMan(man)) {
            return OUTSIDE;
        }
        switch (tens) {
            case 1:
                return brigade.placeOf(man);
            case 2:
                return brigade.coinsOf(man);
            default:
                return brigade.strideOf(man);
        }
    }

    private int toldOfRung(int what) {
        if (within(what, 40 + 1, 40 + RUNGS)) {
            return orNone(brigade.ownerOf(what - 40));
        }
        if (within(what, 60 + 1, 60 + RUNGS)) {
            return orNone(brigade.leaserOf(what - 60));
        }
        return OUTSIDE;
    }

    /** A year is a fire whose acts are drawn, and in which what can not be is left out. */
    private void passYear(int seed, int acts) {
        fire.begin(brigade);
        int x = seed;
        for (int i = 0; i < acts; i++) {
            x = (75 * x + 74) % 65537;
            act.draw(x, fire.behindIt());
            fire.attempt(act);
        }
    }

    private static boolean within(int number, int least, int most) {
        return number >= least && number <= most;
    }

    private static boolean isRung(int rung) {
        return rung >= 1 && rung <= RUNGS;
    }

    private static boolean isPlace(int place) {
        return place >= GROUND && place <= ROOF;
    }

    private static boolean isMan(int man) {
        return man >= 0 && man < MEN;
    }

    private static boolean isManOrNobody(int man) {
        return man == NOBODY || isMan(man);
    }

    private static boolean isImage(int n) {
        return n >= 0 && n < IMAGES;
    }

    private static int orNone(int man) {
        return man == NOBODY ? NONE : man;
    }

    /** The bit of a rung in a set of rungs; no bit for a place that is no rung. */
    private static int bitOf(int rung) {
        return rung >= 1 && rung <= RUNGS ? 1 << (rung - 1) : 0;
    }

    private static boolean rightsFit(int owner, int lease, int missing) {
        if (!within(missing, 0, 1)) {
            return false;
        }
        if (missing == 1) {
            return owner == NOBODY && lease == NOBODY;
        }
        return lease == NOBODY || (owner != NOBODY && owner != lease);
    }

    /** What is done: one object is used for act after act. */
    private static final class Act {
        static final int STEP = 0;
        static final int LEASE = 1;
        static final int LOSE = 2;
        static final int PUT_BACK = 3;
        static final int BEAT = 4;

        private int kind = BEAT;
        private int man = 0;
        private int place = GROUND;

        void become(int newKind, int newMan, int newPlace) {
            kind = newKind;
            man = newMan;
            place = newPlace;
        }

        int kindOf() {
            return kind;
        }

        int doer() {
            return man;
        }

        int target() {
            return place;
        }

        /** The act that a year's draw stands for, as the men are then. */
        void draw(int x, Brigade now) {
            int who = x % MEN;
            int z = x / 48;
            int rung = 1 + z % RUNGS;
            switch (x / 6 % 8) {
                case 0:
                case 1:
                case 2:
                case 3:
                    become(STEP, who, drawnPlace(z, who, now));
                    break;
                case 4:
                    become(LEASE, who, rung);
                    break;
                case 5:
                    become(z / 12 % 2 == 0 ? LOSE : PUT_BACK, who, rung);
                    break;
                default:
                    become(BEAT, who, GROUND);
                    break;
            }
        }

        private static int drawnPlace(int z, int who, Brigade now) {
            int stride = now.strideOf(who);
            int far = stride > 0 ? 1 + z % stride : 1;
            if (z / 4 % 4 != 0) {
                return Math.min(now.placeOf(who) + far, ROOF);
            }
            return Math.max(now.placeOf(who) - far, GROUND);
        }
    }

    /** All that an image keeps: rungs, men, the beat, the sights. Every index is tested here, where it is used. */
    private static final class Brigade {
        private final int[] owner = new int[RUNGS + 1];
        private final int[] leaser = new int[RUNGS + 1];
        private int missing = 0;
        private final int[] stride = new int[MEN];
        private final int[] coins = new int[MEN];
        private final int[] place = new int[MEN];
        private int stepped = 0;
        private int beat = 0;
        private int sights = 0;
        private int wet = 0;
        private int dry = 0;

        Brigade() {
            Arrays.fill(owner, NOBODY);
            Arrays.fill(leaser, NOBODY);
            Arrays.fill(stride, 2);
            Arrays.fill(coins, 5);
        }

        void copyFrom(Brigade other) {
            System.arraycopy(other.owner, 0, owner, 0, RUNGS + 1);
            System.arraycopy(other.leaser, 0, leaser, 0, RUNGS + 1);
            System.arraycopy(other.stride, 0, stride, 0, MEN);
            System.arraycopy(other.coins, 0, coins, 0, MEN);
            System.arraycopy(other.place, 0, place, 0, MEN);
            missing = other.missing;
            stepped = other.stepped;
            beat = other.beat;
            sights = other.sights;
            wet = other.wet;
            dry = other.dry;
        }

        int ownerOf(int rung) {
            return isRung(rung) ? owner[rung] : NOBODY;
        }

        int leaserOf(int rung) {
            return isRung(rung) ? leaser[rung] : NOBODY;
        }

        boolean isMissing(int rung) {
            return (missing & bitOf(rung)) != 0;
        }

        int rungsMissing() {
            return missing;
        }

        void setRung(int rung, int newOwner, int newLeaser, boolean nowMissing) {
            if (isRung(rung)) {
                owner[rung] = newOwner;
                leaser[rung] = newLeaser;
                missing = nowMissing ? missing | bitOf(rung) : missing & ~bitOf(rung);
            }
        }

        int strideOf(int man) {
            return isMan(man) ? stride[man] : 1;
        }

        int coinsOf(int man) {
            return isMan(man) ? coins[man] : 0;
        }

        int placeOf(int man) {
            return isMan(man) ? place[man] : GROUND;
        }

        boolean hasStepped(int man) {
            return isMan(man) && (stepped & 1 << man) != 0;
        }

        int menStepped() {
            return stepped;
        }

        void setMan(int man, int newStride, int newCoins, int newPlace) {
            if (isMan(man)) {
                stride[man] = newStride;
                coins[man] = newCoins;
                place[man] = newPlace;
                stepped &= ~(1 << man);
            }
        }

        int beatNow() {
            return beat;
        }

        int menOnRoof() {
            int men = 0;
            for (int man = 0; man < MEN; man++) {
                if (place[man] == ROOF) {
                    men |= 1 << man;
                }
            }
            return men;
        }

        int firstManOn(int rung) {
            for (int man = 0; man < MEN; man++) {
                if (place[man] == rung) {
                    return man;
                }
            }
            return NOBODY;
        }

        boolean mayBeOn(int man, int rung) {
            if (rung < 1 || rung > RUNGS || (missing >> (rung - 1) & 1) != 0) {
                return false;
            }
            return owner[rung] == NOBODY || owner[rung] == man || leaser[rung] == man;
        }

        int rungsOpenTo(int man) {
            int rungs = 0;
            for (int rung = 1; rung <= RUNGS; rung++) {
                if (mayBeOn(man, rung)) {
                    rungs |= bitOf(rung);
                }
            }
            return rungs;
        }

        /** Rungs that anybody could still lease: there, somebody's, and not leased. */
        int rungsToLease() {
            int rungs = 0;
            for (int rung = 1; rung <= RUNGS; rung++) {
                if (!isMissing(rung) && owner[rung] != NOBODY && leaser[rung] == NOBODY) {
                    rungs |= bitOf(rung);
                }
            }
            return rungs;
        }

        /** The least reason why an act can not be; 0 if it can. */
        int reasonAgainst(Act act) {
            switch (act.kindOf()) {
                case Act.STEP:
                    return reasonAgainstStep(act.doer(), act.target());
                case Act.LEASE:
                    return reasonAgainstLease(act.doer(), act.target());
                case Act.LOSE:
                    return isMissing(act.target()) ? 9 : 0;
                case Act.PUT_BACK:
                    return isMissing(act.target()) ? 0 : 9;
                default:
                    return beat >= LAST_BEAT ? 10 : 0;
            }
        }

        private int reasonAgainstStep(int man, int onto) {
            if (hasStepped(man)) {
                return 1;
            }
            int far = Math.abs(onto - placeOf(man));
            if (far == 0 || far > strideOf(man)) {
                return 2;
            }
            if (!isRung(onto)) {
                return 0;
            }
            if (isMissing(onto)) {
                return 3;
            }
            if (!mayBeOn(man, onto)) {
                return 4;
            }
            return firstManOn(onto) != NOBODY ? 5 : 0;
        }

        private int reasonAgainstLease(int man, int rung) {
            if (isMissing(rung)) {
                return 3;
            }
            if (ownerOf(rung) == man || ownerOf(rung) == NOBODY) {
                return 6;
            }
            if (leaserOf(rung) != NOBODY) {
                return 7;
            }
            return coinsOf(man) <= 0 ? 8 : 0;
        }

        /** Does an act against which there is no reason. */
        void perform(Act act) {
            switch (act.kindOf()) {
                case Act.STEP:
                    moveTo(act.doer(), act.target());
                    break;
                case Act.LEASE:
                    leaseTo(act.doer(), act.target());
                    break;
                case Act.LOSE:
                    setRung(act.target(), NOBODY, NOBODY, true);
                    break;
                case Act.PUT_BACK:
                    setRung(act.target(), NOBODY, NOBODY, false);
                    break;
                default:
                    beat++;
                    stepped = 0;
                    break;
            }
        }

        private void moveTo(int man, int onto) {
            if (isMan(man)) {
                place[man] = onto;
                stepped |= 1 << man;
            }
        }

        private void leaseTo(int man, int rung) {
            int landlord = isRung(rung) ? owner[rung] : NOBODY;
            if (isRung(rung) && isMan(man) && isMan(landlord)) {
                leaser[rung] = man;
                coins[man]--;
                coins[landlord]++;
            }
        }

        boolean addSight(int rung, boolean isWet) {
            if (sights >= MOST_SIGHTS) {
                return false;
            }
            if (isWet) {
                wet |= bitOf(rung);
            } else {
                dry |= bitOf(rung);
            }
            sights++;
            return true;
        }

        void clearSights() {
            sights = 0;
            wet = 0;
            dry = 0;
        }

        int sightCount() {
            return sights;
        }

        boolean sightsFit(int trail) {
            return (trail & wet) == wet && (trail & dry) == 0;
        }
    }

    /** The signs of a fire, and how they are read. */
    private static final class Pad {
        private final char[] signs = new char[MOST_SIGNS];
        private int count = 0;

        boolean add(int sign) {
            if (count < 0 || count >= MOST_SIGNS) {
                return false;
            }
            signs[count] = (char) sign;
            count++;
            return true;
        }

        void clear() {
            count = 0;
        }

        int size() {
            return count;
        }

        /** 0, which stands for no sign, behind the text: what must come and does not is so a fault there. */
        private char signAt(int i) {
            return i >= 0 && i < count && i < MOST_SIGNS ? signs[i] : (char) 0;
        }

        int firstFault() {
            int next = 0;
            for (int acts = 0; acts < MOST_SIGNS && next < count; acts++) {
                int end = endOfAct(next);
                int wrong = firstWrongSign(next, end);
                if (wrong != NONE) {
                    return wrong;
                }
                next = end;
            }
            return NONE;
        }

        /** Where the act behind the one that begins here begins, were it without a fault. */
        int endOfAct(int start) {
            if (!needsMore(signAt(start))) {
                return start + 1;
            }
            return signAt(start + 1) == '%' && isManSign(signAt(start)) ? start + 3 : start + 2;
        }

        private int firstWrongSign(int start, int end) {
            char first = signAt(start);
            if (first == '.') {
                return NONE;
            }
            if (!needsMore(first)) {
                return start;
            }
            boolean isStep = isManSign(first) && end - start == 2;
            char last = signAt(end - 1);
            return isRungSign(last) || isStep && isEndOfLadder(last) ? NONE : end - 1;
        }

        private static boolean needsMore(char first) {
            return isManSign(first) || first == 'k' || first == '+';
        }

        /** Makes an act of what stands between two places, if there is no fault. */
        void read(int start, int end, Act act) {
            char first = signAt(start);
            char last = signAt(end - 1);
            if (first == '.') {
                act.become(Act.BEAT, 0, GROUND);
            } else if (first == 'k') {
                act.become(Act.LOSE, 0, placeOfSign(last));
            } else if (first == '+') {
                act.become(Act.PUT_BACK, 0, placeOfSign(last));
            } else {
                int kind = end - start == 3 ? Act.LEASE : Act.STEP;
                act.become(kind, first - 'A', placeOfSign(last));
            }
        }

        private static int placeOfSign(char sign) {
            if (sign == '^') {
                return ROOF;
            }
            return isRungSign(sign) ? sign - 'a' + 1 : GROUND;
        }

        private static boolean isManSign(char sign) {
            return sign >= 'A' && sign <= 'F';
        }

        private static boolean isRungSign(char sign) {
            return sign >= 'a' && sign <= 'l';
        }

        private static boolean isEndOfLadder(char sign) {
            return sign == '^' || sign == '_';
        }
    }

    /** Acts done on a copy of the brigade, act by act, and what is counted by that. */
    private static final class Fire {
        private final Brigade after = new Brigade();
        private final Act act = new Act();
        private int acts = 0;
        private int steps = 0;
        private int paid = 0;
        private int actUp = NONE;
        private int manUp = NONE;
        private int why = 0;

        void begin(Brigade from) {
            after.copyFrom(from);
            acts = 0;
            steps = 0;
            paid = 0;
            actUp = NONE;
            manUp = NONE;
            why = 0;
        }

        /** Does the acts on a pad up to the first that can not be, none if there is a fault: whether all are done. */
        boolean burn(Pad pad, Brigade from) {
            begin(from);
            if (pad.firstFault() != NONE) {
                return false;
            }
            int next = 0;
            for (int i = 0; i < MOST_SIGNS && next < pad.size(); i++) {
                int end = pad.endOfAct(next);
                pad.read(next, end, act);
                if (!attempt(act)) {
                    return false;
                }
                next = end;
            }
            return true;
        }

        boolean attempt(Act tried) {
            why = after.reasonAgainst(tried);
            if (why != 0) {
                return false;
            }
            after.perform(tried);
            count(tried);
            acts++;
            return true;
        }

        private void count(Act tried) {
            if (tried.kindOf() == Act.LEASE) {
                paid++;
            }
            if (tried.kindOf() != Act.STEP) {
                return;
            }
            steps++;
            if (tried.target() == ROOF && actUp == NONE) {
                actUp = acts;
                manUp = tried.doer();
            }
        }

        int reason() {
            return why;
        }

        int actsDone() {
            return acts;
        }

        int stepsMade() {
            return steps;
        }

        int coinsPaid() {
            return paid;
        }

        int firstActUp() {
            return actUp;
        }

        int firstManUp() {
            return manUp;
        }

        Brigade behindIt() {
            return after;
        }
    }

    /**
     * The ways up of one man. No way is ever better for a step down: what he reaches from below he
     * reaches from where he was; so each place is settled by those above it, from the roof on down.
     */
    private static final class Routes {
        private static final int CLOSED = 1000000;
        private static final int ROOF_BIT = 1 << RUNGS;
        private static final int ONE_LEASE = 1 << RUNGS;

        private final int[] settled = new int[ROOF + 1];

        int fewestSteps(Brigade brigade, int man) {
            settleSteps(brigade, man);
            int steps = settledAt(brigade.placeOf(man));
            return steps >= CLOSED ? NONE : steps;
        }

        int firstStep(Brigade brigade, int man) {
            settleSteps(brigade, man);
            int open = brigade.rungsOpenTo(man) | ROOF_BIT;
            int start = brigade.placeOf(man);
            int steps = settledAt(start);
            if (steps >= CLOSED) {
                return NONE;
            }
            int highest = Math.min(start + brigade.strideOf(man), ROOF);
            for (int next = start + 1; next <= highest; next++) {
                if (isOpen(open, next) && settledAt(next) == steps - 1) {
                    return next;
                }
            }
            return NONE;
        }

        private void settleSteps(Brigade brigade, int man) {
            int open = brigade.rungsOpenTo(man) | ROOF_BIT;
            int stride = brigade.strideOf(man);
            settled[ROOF] = 0;
            for (int place = ROOF - 1; place >= GROUND; place--) {
                int fewest = CLOSED;
                int highest = Math.min(place + stride, ROOF);
                for (int next = place + 1; next <= highest; next++) {
                    if (isOpen(open, next)) {
                        fewest = Math.min(fewest, settledAt(next) + 1);
                    }
                }
                settled[place] = fewest;
            }
        }

        int countUp(Brigade brigade, int man) {
            int open = brigade.rungsOpenTo(man) | ROOF_BIT;
            int stride = brigade.strideOf(man);
            settled[ROOF] = 1;
            for (int place = ROOF - 1; place >= GROUND; place--) {
                int rows = 0;
                int highest = Math.min(place + stride, ROOF);
                for (int next = place + 1; next <= highest; next++) {
                    if (isOpen(open, next)) {
                        rows += settledAt(next);
                    }
                }
                settled[place] = rows;
            }
            return settledAt(brigade.placeOf(man));
        }

        int fewestLeases(Brigade brigade, int man) {
            int cost = leaseCost(brigade, man);
            return cost >= CLOSED ? NONE : cost / ONE_LEASE;
        }

        int leastLeased(Brigade brigade, int man) {
            int cost = leaseCost(brigade, man);
            return cost >= CLOSED ? NONE : cost % ONE_LEASE;
        }

        /** A lease costs one in the higher digits and its rung's bit in the lower: the least cost is then both at once. */
        private int leaseCost(Brigade brigade, int man) {
            int open = brigade.rungsOpenTo(man) | ROOF_BIT;
            int toLease = brigade.rungsToLease();
            int stride = brigade.strideOf(man);
            settled[ROOF] = 0;
            for (int place = ROOF - 1; place >= GROUND; place--) {
                int least = CLOSED;
                int highest = Math.min(place + stride, ROOF);
                for (int next = place + 1; next <= highest; next++) {
                    if (isOpen(open, next)) {
                        least = Math.min(least, settledAt(next));
                    } else if (isOpen(toLease, next)) {
                        least = Math.min(least, settledAt(next) + ONE_LEASE + bitOf(next));
                    }
                }
                settled[place] = least;
            }
            return settledAt(brigade.placeOf(man));
        }

        private int settledAt(int place) {
            return isPlace(place) ? settled[place] : CLOSED;
        }

        private static boolean isOpen(int open, int place) {
            return (open >> (place - 1) & 1) != 0;
        }
    }

    /** Men put on rungs, as many as can be. */
    private static final class Posts {
        private final int[] open = new int[MEN];
        private final int[] post = new int[MEN];
        private int posted = 0;

        /** Each man in turn takes the lowest rung by which no fewer can stand in all. */
        void assign(Brigade brigade) {
            for (int man = 0; man < MEN; man++) {
                open[man] = brigade.rungsOpenTo(man);
            }
            posted = mostFrom(0, ALL_RUNGS);
            int free = ALL_RUNGS;
            for (int man = 0; man < MEN; man++) {
                post[man] = lowestPost(man, free);
                free &= ~bitOf(post[man]);
            }
        }

        private int lowestPost(int man, int free) {
            if (!isMan(man)) {
                return NONE;
            }
            int wanted = mostFrom(man, free);
            for (int rung = 1; rung <= RUNGS; rung++) {
                if ((open[man] & free & bitOf(rung)) != 0
                        && 1 + mostFrom(man + 1, free & ~bitOf(rung)) == wanted) {
                    return rung;
                }
            }
            return NONE;
        }

        /**
         * How many of the men from one on can stand on free rungs: all, but for as many as the worst
         * group of them has too few rungs among it (the marriage theorem, with its deficiency).
         */
        private int mostFrom(int firstMan, int free) {
            if (!isMan(firstMan)) {
                return 0;
            }
            int men = MEN - firstMan;
            int most = men;
            for (int group = 0; group < 1 << men; group++) {
                int rungs = 0;
                for (int man = firstMan; man < MEN; man++) {
                    if ((group >> (man - firstMan) & 1) != 0) {
                        rungs |= open[man] & free;
                    }
                }
                most = Math.min(most, men - Integer.bitCount(group) + Integer.bitCount(rungs));
            }
            return most;
        }

        int menPosted() {
            return posted;
        }

        int rungOf(int man) {
            return isMan(man) ? post[man] : NONE;
        }
    }

    /** Who may have gone up, and how, as the sights are. */
    private static final class Trails {
        private static final int FAR = 0;
        private static final int NEAR = 1;

        private final int[] codes = new int[2 * MEN];
        private final int[] wetRungs = new int[2 * MEN];
        private int count = 0;

        void find(Brigade brigade) {
            count = 0;
            for (int man = 0; man < MEN; man++) {
                for (int manner = FAR; manner <= NEAR; manner++) {
                    int trail = trailOf(brigade, man, manner);
                    if (brigade.sightsFit(trail) && count >= 0 && count < 2 * MEN) {
                        codes[count] = 10 * man + manner;
                        wetRungs[count] = trail;
                        count++;
                    }
                }
            }
        }

        private static int trailOf(Brigade brigade, int man, int manner) {
            int trail = 0;
            int place = GROUND;
            for (int steps = 0; steps < ROOF && place < ROOF; steps++) {
                int next = nextPlace(brigade, man, manner, place);
                if (next == place) {
                    return trail;
                }
                trail |= bitOf(next);
                place = next;
            }
            return trail;
        }

        private static int nextPlace(Brigade brigade, int man, int manner, int place) {
            int stride = brigade.strideOf(man);
            for (int i = 1; i <= stride; i++) {
                int next = place + (manner == FAR ? stride + 1 - i : i);
                if (next == ROOF || brigade.mayBeOn(man, next)) {
                    return next;
                }
            }
            return place;
        }

        int size() {
            return count;
        }

        int codeAt(int i) {
            return i >= 0 && i < count && i < 2 * MEN ? codes[i] : NONE;
        }

        int rungToFeel() {
            int best = 1;
            for (int rung = 2; rung <= RUNGS; rung++) {
                if (mostLeftBy(rung) < mostLeftBy(best)) {
                    best = rung;
                }
            }
            return best;
        }

        int mostLeftBy(int rung) {
            int wet = 0;
            for (int i = 0; i < count && i < 2 * MEN; i++) {
                if ((wetRungs[i] & bitOf(rung)) != 0) {
                    wet++;
                }
            }
            return Math.max(wet, count - wet);
        }
    }

    /**
     * Men brought down by turns. Taken in pairs from the top, the gap inside a pair is a heap of Nim:
     * who brings down a pair's upper one takes from it, and what its lower one adds to it can be taken again.
     */
    private static final class Descents {
        static boolean canWin(int set) {
            return heapsOf(set) != 0;
        }

        static int leastWinningMove(int set) {
            if (!canWin(set)) {
                return NONE;
            }
            int below = 0;
            for (int from = 1; from <= RUNGS; from++) {
                if ((set & bitOf(from)) == 0) {
                    continue;
                }
                for (int onto = below + 1; onto < from; onto++) {
                    if (!canWin(set & ~bitOf(from) | bitOf(onto))) {
                        return 100 * from + onto;
                    }
                }
                below = from;
            }
            return NONE;
        }

        private static int heapsOf(int set) {
            int heaps = 0;
            int upper = 0;
            for (int rung = RUNGS; rung >= 1; rung--) {
                if ((set & bitOf(rung)) == 0) {
                    continue;
                }
                if (upper == 0) {
                    upper = rung;
                } else {
                    heaps ^= upper - rung - 1;
                    upper = 0;
                }
            }
            return upper == 0 ? heaps : heaps ^ (upper - 1);
        }
    }

    /**
     * Chances by even strides, exactly: the chance of place p is chances[p] by s to the p. Each of chances[p]
     * is one more than a multiple of s, and so is the upper number of the mean: they are in lowest terms already.
     */
    private static final class Feet {
        private final long[] chances = new long[RUNGS + 1];
        private long upper = 0;
        private long lower = 1;

        void chanceOn(int s, int r) {
            reckonChances(s);
            upper = isRung(r) ? chances[r] : 0;
            lower = power(s, r);
        }

        /** One makes a step from each place below r on which one sets foot, and from no other. */
        void meanStepsTo(int s, int r) {
            reckonChances(s);
            upper = 0;
            for (int place = 0; place < r && place <= RUNGS; place++) {
                upper += chances[place] * power(s, r - 1 - place);
            }
            lower = power(s, r - 1);
        }

        private void reckonChances(int s) {
            chances[0] = 1;
            for (int place = 1; place <= RUNGS; place++) {
                long sum = 0;
                for (int far = 1; far <= s && far <= place; far++) {
                    sum += chances[place - far] * power(s, far - 1);
                }
                chances[place] = sum;
            }
        }

        private static long power(int base, int exponent) {
            long product = 1;
            for (int i = 0; i < exponent && i < RUNGS; i++) {
                product *= base;
            }
            return product;
        }

        long upperNumber() {
            return upper;
        }

        long lowerNumber() {
            return lower;
        }
    }
}
