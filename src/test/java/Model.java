import java.math.BigInteger;
import java.util.ArrayList;
import java.util.HashMap;
import java.util.HashSet;
import java.util.List;
import java.util.Map;
import java.util.Set;
import java.util.TreeSet;
import java.util.regex.Matcher;
import java.util.regex.Pattern;

/**
 * The document told a second time, by the slowest and plainest means (every subset, every row of steps,
 * every game), so that it shares no cleverness, and so no mistake, with the class.
 */
final class Model {
    static final int NONE = -6, UNKNOWN = -1, OUTSIDE = -2, STATE = -3, FULL = -4, NO = -5;
    static final long LOST = -1000000000000000000L;

    /** All but the pad. */
    private static final class World {
        final Map<Integer, Integer> owners = new HashMap<>();
        final Map<Integer, Integer> leasers = new HashMap<>();
        final Set<Integer> gone = new HashSet<>();
        final int[] strides = {2, 2, 2, 2, 2, 2};
        final int[] coins = {5, 5, 5, 5, 5, 5};
        final int[] places = new int[6];
        final Set<Integer> moved = new HashSet<>();
        int beat = 0;
        final List<int[]> sights = new ArrayList<>();

        World copy() {
            World other = new World();
            other.owners.putAll(owners);
            other.leasers.putAll(leasers);
            other.gone.addAll(gone);
            System.arraycopy(strides, 0, other.strides, 0, 6);
            System.arraycopy(coins, 0, other.coins, 0, 6);
            System.arraycopy(places, 0, other.places, 0, 6);
            other.moved.addAll(moved);
            other.beat = beat;
            other.sights.addAll(sights);
            return other;
        }

        boolean may(int man, int rung) {
            if (gone.contains(rung)) {
                return false;
            }
            Integer whose = owners.get(rung);
            Integer to = leasers.get(rung);
            return whose == null || whose == man || (to != null && to == man);
        }

        int roof() {
            int bits = 0;
            for (int man = 0; man < 6; man++) {
                bits += places[man] == 13 ? 1 << man : 0;
            }
            return bits;
        }

        /** The reasons in the order of the document, each with the acts to which it belongs. */
        int reason(String text) {
            char first = text.charAt(0);
            int man = first - 'A';
            int place = placeOf(text.charAt(text.length() - 1));
            boolean beats = text.equals(".");
            boolean loses = first == 'k';
            boolean puts = first == '+';
            boolean leases = text.contains("%");
            boolean steps = !beats && !loses && !puts && !leases;
            boolean ontoRung = steps && place >= 1 && place <= 12;
            if (steps && moved.contains(man)) {
                return 1;
            }
            if (steps && (places[man] == place || places[man] - place > strides[man] || place - places[man] > strides[man])) {
                return 2;
            }
            if ((ontoRung || leases) && gone.contains(place)) {
                return 3;
            }
            if (ontoRung && !may(man, place)) {
                return 4;
            }
            if (ontoRung && standing(place) >= 0) {
                return 5;
            }
            if (leases && (!owners.containsKey(place) || owners.get(place) == man)) {
                return 6;
            }
            if (leases && leasers.containsKey(place)) {
                return 7;
            }
            if (leases && coins[man] == 0) {
                return 8;
            }
            if (loses && gone.contains(place) || puts && !gone.contains(place)) {
                return 9;
            }
            return beats && beat == 99 ? 10 : 0;
        }

        int standing(int place) {
            for (int man = 0; man < 6; man++) {
                if (places[man] == place) {
                    return man;
                }
            }
            return NONE;
        }

        void act(String text) {
            char first = text.charAt(0);
            int place = placeOf(text.charAt(text.length() - 1));
            if (first == '.') {
                beat++;
                moved.clear();
            } else if (first == 'k') {
                gone.add(place);
                owners.remove(place);
                leasers.remove(place);
            } else if (first == '+') {
                gone.remove(place);
            } else if (text.length() == 3) {
                leasers.put(place, first - 'A');
                coins[first - 'A']--;
                coins[owners.get(place)]++;
            } else {
                places[first - 'A'] = place;
                moved.add(first - 'A');
            }
        }

        static int placeOf(char sign) {
            return sign == '^' ? 13 : sign >= 'a' && sign <= 'l' ? sign - 'a' + 1 : 0;
        }
    }

    private World now = new World();
    private final World[] images = new World[2];
    private String pad = "";

    private static boolean man(int n) {
        return n >= 0 && n <= 5;
    }

    private static boolean rung(int n) {
        return n >= 1 && n <= 12;
    }

    int rung(int rung, int owner, int lease, int missing) {
        if (!rung(rung) || owner != -1 && !man(owner) || lease != -1 && !man(lease)) {
            return UNKNOWN;
        }
        boolean badLease = lease != -1 && (owner == -1 || owner == lease);
        if (missing != 0 && missing != 1 || badLease || missing == 1 && (owner != -1 || lease != -1)) {
            return OUTSIDE;
        }
        int was = now.owners.getOrDefault(rung, NONE);
        now.owners.remove(rung);
        now.leasers.remove(rung);
        now.gone.remove(rung);
        if (missing == 1) {
            now.gone.add(rung);
        }
        if (owner != -1) {
            now.owners.put(rung, owner);
        }
        if (lease != -1) {
            now.leasers.put(rung, lease);
        }
        return was;
    }

    int man(int man, int stride, int coins, int place) {
        if (!man(man)) {
            return UNKNOWN;
        }
        if (stride < 1 || stride > 4 || coins < 0 || coins > 99 || place < 0 || place > 13) {
            return OUTSIDE;
        }
        int was = now.places[man] * 100 + now.coins[man];
        now.strides[man] = stride;
        now.coins[man] = coins;
        now.places[man] = place;
        now.moved.remove(man);
        return was;
    }

    int say(int sign) {
        if (sign < 33 || sign > 126) {
            return OUTSIDE;
        }
        if (pad.length() == 60) {
            return FULL;
        }
        pad += (char) sign;
        return pad.length();
    }

    int wipe() {
        int was = pad.length();
        pad = "";
        return was;
    }

    private static final Pattern ACT = Pattern.compile("[A-F][a-l^_]|[A-F]%[a-l]|[k+][a-l]|\\.");
    private static final Pattern FIRE = Pattern.compile("(?:" + ACT.pattern() + ")*");

    int fault() {
        if (FIRE.matcher(pad).matches()) {
            return NONE;
        }
        for (int length = 1; length <= pad.length(); length++) {
            if (!canGoOn(pad.substring(0, length))) {
                return length - 1;
            }
        }
        return pad.length();
    }

    private static boolean canGoOn(String text) {
        return FIRE.matcher(text).matches() || FIRE.matcher(text + "a").matches() || FIRE.matcher(text + "%a").matches();
    }

    private List<String> acts() {
        List<String> all = new ArrayList<>();
        Matcher matcher = ACT.matcher(pad);
        while (matcher.find()) {
            all.add(matcher.group());
        }
        return all;
    }

    int judge(int what) {
        if (what != 0 && what != 1) {
            return OUTSIDE;
        }
        if (fault() != NONE) {
            return NO;
        }
        World after = now.copy();
        List<String> acts = acts();
        for (int i = 0; i < acts.size(); i++) {
            int reason = after.reason(acts.get(i));
            if (reason != 0) {
                return what == 0 ? i : reason;
            }
            after.act(acts.get(i));
        }
        return NONE;
    }

    /** Null if there is a fault or an act that can not be. */
    private World after() {
        if (judge(0) != NONE) {
            return null;
        }
        World after = now.copy();
        for (String act : acts()) {
            after.act(act);
        }
        return after;
    }

    int done() {
        World after = after();
        if (after == null) {
            return NO;
        }
        int acts = acts().size();
        now = after;
        pad = "";
        return acts;
    }

    int behind(int man, int what) {
        if (!man(man)) {
            return UNKNOWN;
        }
        if (what < 0 || what > 3) {
            return OUTSIDE;
        }
        World after = after();
        if (after == null) {
            return NO;
        }
        int rungs = 0;
        for (int rung = 1; rung <= 12; rung++) {
            rungs += after.may(man, rung) ? 1 << (rung - 1) : 0;
        }
        return new int[] {after.places[man], after.coins[man], rungs, after.moved.contains(man) ? 1 : 0}[what];
    }

    int bears(int rung, int what) {
        if (!rung(rung)) {
            return UNKNOWN;
        }
        if (what < 0 || what > 3) {
            return OUTSIDE;
        }
        World after = after();
        if (after == null) {
            return NO;
        }
        return new int[] {after.owners.getOrDefault(rung, NONE), after.leasers.getOrDefault(rung, NONE),
            after.standing(rung), after.gone.contains(rung) ? 1 : 0}[what];
    }

    int then(int what) {
        if (what < 0 || what > 5) {
            return OUTSIDE;
        }
        World after = after();
        if (after == null) {
            return NO;
        }
        int steps = 0;
        int paid = 0;
        int up = NONE;
        int who = NONE;
        List<String> acts = acts();
        for (int i = 0; i < acts.size(); i++) {
            steps += acts.get(i).matches("[A-F][a-l^_]") ? 1 : 0;
            paid += acts.get(i).contains("%") ? 1 : 0;
            if (acts.get(i).endsWith("^") && up == NONE) {
                up = i;
                who = acts.get(i).charAt(0) - 'A';
            }
        }
        return new int[] {after.beat, after.roof(), steps, paid, up, who}[what];
    }

    /** The fewest steps, up or down, by waves; -1 if never. */
    private int wave(int man, int from, Set<Integer> rungs) {
        Set<Integer> seen = new HashSet<>(Set.of(from));
        Set<Integer> edge = new HashSet<>(Set.of(from));
        for (int steps = 0; !edge.isEmpty(); steps++) {
            if (edge.contains(13)) {
                return steps;
            }
            Set<Integer> next = new HashSet<>();
            for (int place : edge) {
                for (int to = 0; to <= 13; to++) {
                    boolean may = to == 0 || to == 13 || rungs.contains(to);
                    if (may && Math.abs(to - place) <= now.strides[man] && seen.add(to)) {
                        next.add(to);
                    }
                }
            }
            edge = next;
        }
        return -1;
    }

    private Set<Integer> openTo(int man) {
        Set<Integer> rungs = new TreeSet<>();
        for (int rung = 1; rung <= 12; rung++) {
            if (now.may(man, rung)) {
                rungs.add(rung);
            }
        }
        return rungs;
    }

    int climb(int man, int what) {
        if (!man(man)) {
            return UNKNOWN;
        }
        if (what != 0 && what != 1) {
            return OUTSIDE;
        }
        Set<Integer> rungs = openTo(man);
        int steps = wave(man, now.places[man], rungs);
        if (steps < 0 || what == 0) {
            return steps < 0 ? NONE : steps;
        }
        for (int to = 0; to <= 13; to++) {
            boolean may = to == 0 || to == 13 || rungs.contains(to);
            boolean near = to != now.places[man] && Math.abs(to - now.places[man]) <= now.strides[man];
            if (may && near && wave(man, to, rungs) == steps - 1) {
                return to;
            }
        }
        return NONE;
    }

    int ways(int man) {
        return man(man) ? rows(man, now.places[man], openTo(man)) : UNKNOWN;
    }

    private int rows(int man, int from, Set<Integer> rungs) {
        if (from == 13) {
            return 1;
        }
        int rows = 0;
        for (int to = from + 1; to <= from + now.strides[man]; to++) {
            rows += to == 13 || rungs.contains(to) ? rows(man, to, rungs) : 0;
        }
        return rows;
    }

    int leases(int man, int what) {
        if (!man(man)) {
            return UNKNOWN;
        }
        if (what != 0 && what != 1) {
            return OUTSIDE;
        }
        int best = NONE;
        for (int set = 0; set < 4096; set++) {
            if (best != NONE && Integer.bitCount(set) >= Integer.bitCount(best)) {
                continue;
            }
            Set<Integer> rungs = openTo(man);
            boolean can = true;
            for (int rung = 1; rung <= 12; rung++) {
                if ((set >> (rung - 1) & 1) == 1) {
                    can &= !now.gone.contains(rung) && now.owners.containsKey(rung) && !now.leasers.containsKey(rung);
                    rungs.add(rung);
                }
            }
            if (can && wave(man, now.places[man], rungs) >= 0) {
                best = set;
            }
        }
        return best == NONE || what == 1 ? best : Integer.bitCount(best);
    }

    private int[] bestPosts;
    private int bestCount;

    int stand(int man) {
        if (man != -1 && !man(man)) {
            return UNKNOWN;
        }
        bestPosts = null;
        bestCount = -1;
        List<Set<Integer>> open = new ArrayList<>();
        for (int i = 0; i < 6; i++) {
            open.add(openTo(i));
        }
        post(0, new int[6], 0, 0, open);
        return man == -1 ? bestCount : bestPosts[man];
    }

    /** All assignments in the order of the document; the first of the most stays. */
    private void post(int man, int[] posts, int used, int count, List<Set<Integer>> open) {
        if (count + 6 - man <= bestCount) {
            return;
        }
        if (man == 6) {
            bestCount = count;
            bestPosts = posts.clone();
            return;
        }
        for (int rung : open.get(man)) {
            if ((used >> rung & 1) == 0) {
                posts[man] = rung;
                post(man + 1, posts, used | 1 << rung, count + 1, open);
            }
        }
        posts[man] = NONE;
        post(man + 1, posts, used, count, open);
    }

    int felt(int rung, boolean wet) {
        if (!rung(rung)) {
            return UNKNOWN;
        }
        if (now.sights.size() == 8) {
            return FULL;
        }
        now.sights.add(new int[] {rung, wet ? 1 : 0});
        return now.sights.size();
    }

    int forget() {
        int was = now.sights.size();
        now.sights.clear();
        return was;
    }

    private Set<Integer> trail(int code) {
        int man = code / 10;
        Set<Integer> wet = new TreeSet<>();
        int place = 0;
        while (place != 13) {
            TreeSet<Integer> can = new TreeSet<>();
            for (int to = place + 1; to <= place + now.strides[man]; to++) {
                if (to == 13 || to < 13 && now.may(man, to)) {
                    can.add(to);
                }
            }
            if (can.isEmpty()) {
                return wet;
            }
            place = code % 10 == 0 ? can.last() : can.first();
            wet.add(place);
        }
        return wet;
    }

    private List<Integer> fitting() {
        List<Integer> codes = new ArrayList<>();
        for (int code = 0; code <= 51; code++) {
            if (code % 10 <= 1) {
                boolean fits = true;
                for (int[] sight : now.sights) {
                    fits &= trail(code).contains(sight[0]) == (sight[1] == 1);
                }
                if (fits) {
                    codes.add(code);
                }
            }
        }
        return codes;
    }

    int ups(int i) {
        List<Integer> codes = fitting();
        return i == -1 ? codes.size() : i >= 0 && i < codes.size() ? codes.get(i) : NONE;
    }

    int ask(int what) {
        if (what != 0 && what != 1) {
            return OUTSIDE;
        }
        List<Integer> codes = fitting();
        if (codes.isEmpty()) {
            return NONE;
        }
        int best = 0;
        int bestLeft = 99;
        for (int rung = 1; rung <= 12; rung++) {
            int wet = 0;
            for (int code : codes) {
                wet += trail(code).contains(rung) ? 1 : 0;
            }
            int left = Math.max(wet, codes.size() - wet);
            if (left < bestLeft) {
                best = rung;
                bestLeft = left;
            }
        }
        return what == 0 ? best : bestLeft;
    }

    private static final int[] GAMES = new int[4096];

    int down(int set, int what) {
        if (set < 0 || set > 4095 || what != 0 && what != 1) {
            return OUTSIDE;
        }
        int move = winning(set);
        return what == 1 ? move : move == NONE ? 0 : 1;
    }

    /** The least move behind which the other one has none that wins. */
    private static int winning(int set) {
        if (GAMES[set] != 0) {
            return GAMES[set];
        }
        int best = NONE;
        for (int from = 12; from >= 1; from--) {
            for (int onto = from - 1; onto >= 1 && (set >> (from - 1) & 1) == 1; onto--) {
                if ((set >> (onto - 1) & 1) == 1) {
                    break;
                }
                if (winning(set - (1 << (from - 1)) + (1 << (onto - 1))) == NONE) {
                    best = 100 * from + onto;
                }
            }
        }
        GAMES[set] = best;
        return best;
    }

    long foot(int s, int r, int what, int part) {
        if (!rung(r)) {
            return LOST + UNKNOWN;
        }
        if (s < 1 || s > 4 || what != 0 && what != 1 || part != 0 && part != 1) {
            return LOST + OUTSIDE;
        }
        BigInteger[] answer = what == 0 ? chance(s, r) : mean(s, r);
        return answer[part].longValueExact();
    }

    /** That one comes from r rungs below onto it. */
    private static BigInteger[] chance(int s, int r) {
        if (r <= 0) {
            return fraction(r == 0 ? 1 : 0, 1);
        }
        BigInteger[] sum = fraction(0, 1);
        for (int far = 1; far <= s; far++) {
            sum = plus(sum, by(chance(s, r - far), s));
        }
        return sum;
    }

    /** One step, and what is still to do behind it. */
    private static BigInteger[] mean(int s, int r) {
        if (r <= 0) {
            return fraction(0, 1);
        }
        BigInteger[] sum = fraction(1, 1);
        for (int far = 1; far <= s; far++) {
            sum = plus(sum, by(mean(s, r - far), s));
        }
        return sum;
    }

    private static BigInteger[] fraction(long upper, long lower) {
        return new BigInteger[] {BigInteger.valueOf(upper), BigInteger.valueOf(lower)};
    }

    private static BigInteger[] plus(BigInteger[] a, BigInteger[] b) {
        BigInteger upper = a[0].multiply(b[1]).add(b[0].multiply(a[1]));
        BigInteger lower = a[1].multiply(b[1]);
        BigInteger common = upper.gcd(lower);
        return new BigInteger[] {upper.divide(common), lower.divide(common)};
    }

    private static BigInteger[] by(BigInteger[] a, int s) {
        return new BigInteger[] {a[0], a[1].multiply(BigInteger.valueOf(s))};
    }

    int year(int seed, int m, int what) {
        if (seed < 0 || seed > 9999 || m < 1 || m > 99 || what < 0 || what > 2) {
            return OUTSIDE;
        }
        World world = now.copy();
        int steps = 0;
        long x = seed;
        for (int i = 0; i < m; i++) {
            x = (75 * x + 74) % 65537;
            String act = drawn(world, (int) x);
            if (world.reason(act) == 0) {
                world.act(act);
                steps += act.matches("[A-F][a-l^_]") ? 1 : 0;
            }
        }
        return new int[] {world.roof(), world.coins[0], steps}[what];
    }

    private static String drawn(World world, int x) {
        int man = x % 6;
        int kind = (x / 6) % 8;
        int z = x / 48;
        char who = (char) ('A' + man);
        char rung = (char) ('a' + z % 12);
        if (kind >= 6) {
            return ".";
        }
        if (kind == 5) {
            return ((z / 12) % 2 == 0 ? "k" : "+") + rung;
        }
        if (kind == 4) {
            return who + "%" + rung;
        }
        int far = 1 + z % world.strides[man];
        int to = (z / 4) % 4 != 0 ? world.places[man] + far : world.places[man] - far;
        return who + (to <= 0 ? "_" : to >= 13 ? "^" : String.valueOf((char) ('a' + to - 1)));
    }

    int image(int n) {
        if (n != 0 && n != 1) {
            return OUTSIDE;
        }
        images[n] = now.copy();
        return 1;
    }

    int restore(int n) {
        if (n != 0 && n != 1) {
            return OUTSIDE;
        }
        if (images[n] == null) {
            return STATE;
        }
        now = images[n].copy();
        return 1;
    }

    int told(int what) {
        if (what >= 10 && what <= 15) {
            return now.places[what - 10];
        }
        if (what >= 20 && what <= 25) {
            return now.coins[what - 20];
        }
        if (what >= 30 && what <= 35) {
            return now.strides[what - 30];
        }
        if (what >= 41 && what <= 52) {
            return now.owners.getOrDefault(what - 40, NONE);
        }
        if (what >= 61 && what <= 72) {
            return now.leasers.getOrDefault(what - 60, NONE);
        }
        if (what < 0 || what > 5) {
            return OUTSIDE;
        }
        int moved = 0;
        for (int man : now.moved) {
            moved += 1 << man;
        }
        int gone = 0;
        for (int rung : now.gone) {
            gone += 1 << (rung - 1);
        }
        return new int[] {pad.length(), now.beat, now.roof(), moved, gone, now.sights.size()}[what];
    }
}
