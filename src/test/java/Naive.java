import java.math.BigInteger;
import java.util.ArrayList;
import java.util.Arrays;
import java.util.List;
import java.util.regex.Matcher;
import java.util.regex.Pattern;

/**
 * The document a second time, the slow way: weights are summed anew from all that was said, as whole numbers of
 * 2 to the -400; plans, strikes and orders are all tried. Where that would take too long, the answer is SKIP.
 */
final class Naive {
    static final int NONE = -1, UNKNOWN = -1000000001, OUTSIDE = -1000000002, NOT = -1000000003, FULL = -1000000004;
    static final int SKIP = 123456789;
    private static final int POINT = 400;
    private static final long MOST_PLANS = 60000;

    private record Suit(int need, int lasts, int hangs) { }
    private record Witness(int suit, int weight, String kind) { }
    private record Law(int from, int copies, int moon, int talkers) { }
    private record Said(int witness, int suit, int day, int fresh) { }

    private static final class Fault extends Exception {
        private static final long serialVersionUID = 1;
        final int number;
        final int place;

        Fault(int number, int place) {
            this.number = number;
            this.place = place;
        }
    }

    private static final class State implements Cloneable {
        int day;
        long seed;
        List<Said> said = new ArrayList<>();
        boolean[] struck = new boolean[12];
        int[] how = new int[6];
        int[] ended = new int[6];

        State() {
            Arrays.fill(ended, NONE);
        }

        State copy() {
            State c = new State();
            c.day = day;
            c.seed = seed;
            c.said = new ArrayList<>(said);
            c.struck = struck.clone();
            c.how = how.clone();
            c.ended = ended.clone();
            return c;
        }
    }

    private StringBuilder text = new StringBuilder();
    private List<Suit> suits = new ArrayList<>();
    private List<Witness> witnesses = new ArrayList<>();
    private List<Law> laws = new ArrayList<>();
    private State now = new State();
    private State[] images = new State[2];
    private List<List<Integer>> books = new ArrayList<>();
    private int faultPlace = NONE;

    Naive() {
        tearAll();
    }

    private void tearAll() {
        books.clear();
        for (int i = 0; i < 6; i++) {
            books.add(new ArrayList<>());
        }
    }

    // ---- texts

    int feed(int n, long bytes) {
        if (n < 1 || n > 8) return OUTSIDE;
        if (text.length() + n > 500) return FULL;
        String hex = String.format("%016x", bytes);
        for (int i = 8 - n; i < 8; i++) {
            text.append((char) Integer.parseInt(hex.substring(2 * i, 2 * i + 2), 16));
        }
        return text.length();
    }

    private record Token(String text, int place) {
        boolean isNumber() {
            return text.matches("[0-9]+");
        }
    }

    private static final class Tokens {
        final List<Token> all = new ArrayList<>();
        int next;

        Tokens(String text) {
            Matcher m = Pattern.compile("[a-z]+|[0-9]+|[^ ]", Pattern.DOTALL).matcher(text);
            while (m.find()) {
                all.add(new Token(m.group(), m.start()));
            }
            all.add(new Token("", text.length()));
        }

        Token peek() {
            return all.get(next);
        }

        int number(int low, int high) throws Fault {
            Token t = peek();
            if (!t.isNumber()) throw new Fault(1, t.place);
            if (t.text.length() > 3) throw new Fault(2, t.place);
            int v = Integer.parseInt(t.text);
            if (v < low || v > high) throw new Fault(2, t.place);
            next++;
            return v;
        }

        String oneOf(String... words) throws Fault {
            Token t = peek();
            if (!Arrays.asList(words).contains(t.text)) throw new Fault(1, t.place);
            next++;
            return t.text;
        }
    }

    int court() {
        Tokens t = new Tokens(text.toString());
        text = new StringBuilder();
        List<Suit> ss = new ArrayList<>();
        List<Witness> ws = new ArrayList<>();
        try {
            while (!t.peek().text.isEmpty()) {
                int place = t.peek().place;
                if (t.oneOf("suit", "witness").equals("suit")) {
                    if (ss.size() == 6) throw new Fault(3, place);
                    int need = t.number(1, 999);
                    int lasts = t.number(1, 399);
                    int hangs = NONE;
                    if (t.oneOf("on", ";").equals("on")) {
                        hangs = t.number(0, ss.size() - 1);
                        t.oneOf(";");
                    }
                    ss.add(new Suit(need, lasts, hangs));
                } else {
                    if (ws.size() == 12) throw new Fault(3, place);
                    int at = t.peek().place;
                    int s = t.number(0, ss.size() - 1);
                    if (ws.stream().filter(w -> w.suit == s).count() == 6) throw new Fault(4, at);
                    int weight = t.number(1, 99);
                    String kind = t.oneOf("sworn", "copied", "shown", "against");
                    t.oneOf(";");
                    ws.add(new Witness(s, weight, kind));
                }
            }
        } catch (Fault f) {
            faultPlace = f.place;
            return -10 - f.number;
        }
        faultPlace = NONE;
        suits = ss;
        witnesses = ws;
        long seed = now.seed;
        now = new State();
        now.seed = seed;
        images = new State[2];
        tearAll();
        return ss.size();
    }

    int laws() {
        if (text.length() > 200) return NOT;
        Tokens t = new Tokens(text.toString());
        text = new StringBuilder();
        List<Law> ls = new ArrayList<>();
        try {
            while (!t.peek().text.isEmpty()) {
                int place = t.peek().place;
                t.oneOf("from");
                if (ls.size() == 6) throw new Fault(3, place);
                int at = t.peek().place;
                int d = t.number(0, 399);
                if (!ls.isEmpty() && d <= ls.get(ls.size() - 1).from) throw new Fault(4, at);
                ls.add(new Law(d, t.number(0, 6), t.number(1, 60), t.number(1, 6)));
                t.oneOf(";");
            }
        } catch (Fault f) {
            faultPlace = f.place;
            return -10 - f.number;
        }
        faultPlace = NONE;
        laws = ls;
        return ls.size();
    }

    int fault() {
        return faultPlace;
    }

    private Law lawOn(int day) {
        Law l = new Law(0, 1, 28, 2);
        for (Law other : laws) {
            if (other.from <= day) l = other;
        }
        return l;
    }

    int told(int what) {
        return switch (what) {
            case 0 -> suits.size();
            case 1 -> witnesses.size();
            case 2 -> laws.size();
            case 3 -> now.day;
            case 4 -> text.length();
            case 5 -> spokenOn(now.day);
            case 6 -> lawOn(now.day).copies;
            case 7 -> lawOn(now.day).moon;
            case 8 -> lawOn(now.day).talkers;
            default -> OUTSIDE;
        };
    }

    private boolean noSuit(int s) {
        return s < 0 || s >= suits.size();
    }

    private boolean noWitness(int w) {
        return w < 0 || w >= witnesses.size();
    }

    private List<Integer> of(int s) {
        List<Integer> members = new ArrayList<>();
        for (int w = 0; w < witnesses.size(); w++) {
            if (witnesses.get(w).suit == s) members.add(w);
        }
        return members;
    }

    private static int set(List<Integer> members) {
        return members.stream().mapToInt(w -> 1 << w).sum();
    }

    int suit(int s, int what) {
        if (noSuit(s)) return UNKNOWN;
        return switch (what) {
            case 0 -> suits.get(s).need;
            case 1 -> suits.get(s).lasts;
            case 2 -> suits.get(s).hangs;
            case 3 -> now.how[s];
            case 4 -> now.ended[s];
            case 5 -> set(of(s));
            default -> OUTSIDE;
        };
    }

    private int fresh(int w, int day) {
        Witness x = witnesses.get(w);
        return x.weight * switch (x.kind) {
            case "copied" -> lawOn(day).copies;
            case "against" -> 6;
            default -> 3;
        };
    }

    private int spokenOn(int day) {
        return (int) now.said.stream().filter(x -> x.day == day).count();
    }

    /** By strikes, ends and moons. */
    private boolean free(int w, int day) {
        if (now.struck[w] || now.how[witnesses.get(w).suit] != 0) return false;
        for (Said x : now.said) {
            if (x.witness == w && (witnesses.get(w).kind.equals("shown") || x.day + lawOn(day).moon > day)) return false;
        }
        return true;
    }

    private boolean may(int w) {
        return free(w, now.day) && spokenOn(now.day) < lawOn(now.day).talkers;
    }

    int witness(int w, int what) {
        if (noWitness(w)) return UNKNOWN;
        Witness x = witnesses.get(w);
        return switch (what) {
            case 0 -> x.suit;
            case 1 -> x.weight;
            case 2 -> List.of("sworn", "copied", "shown", "against").indexOf(x.kind);
            case 3 -> fresh(w, now.day);
            case 4 -> now.said.stream().filter(y -> y.witness == w).mapToInt(Said::day).max().orElse(NONE);
            case 5 -> (int) now.said.stream().filter(y -> y.witness == w).count();
            case 6 -> now.struck[w] ? 1 : 0;
            case 7 -> may(w) ? 1 : 0;
            default -> OUTSIDE;
        };
    }

    /** In 2 to the -400. */
    private BigInteger exact(int s, int day) {
        BigInteger sum = BigInteger.ZERO;
        for (Said x : now.said) {
            if (x.suit == s && x.day <= day) {
                sum = sum.add(BigInteger.valueOf(x.fresh).shiftLeft(POINT - (day - x.day)));
            }
        }
        return sum;
    }

    private BigInteger goal(int s) {
        return BigInteger.valueOf(3L * suits.get(s).need).shiftLeft(POINT);
    }

    int weight(int s, int i) {
        if (noSuit(s)) return UNKNOWN;
        if (i < -1 || i > 399) return OUTSIDE;
        BigInteger sum = exact(s, now.day);
        return i == -1 ? sum.shiftRight(POINT).intValueExact() : sum.testBit(POINT - 1 - i) ? 1 : 0;
    }

    // ---- days

    private void look(int s) {
        int other = suits.get(s).hangs;
        if (now.how[s] == 0 && exact(s, now.day).compareTo(goal(s)) >= 0 && (other == NONE || now.how[other] == 1)) {
            now.how[s] = 1;
            now.ended[s] = now.day;
        }
    }

    int say(int w) {
        if (noWitness(w)) return UNKNOWN;
        if (!may(w)) return NOT;
        int s = witnesses.get(w).suit;
        now.said.add(new Said(w, s, now.day, fresh(w, now.day)));
        look(s);
        return now.how[s];
    }

    int strike(int w, boolean is) {
        if (noWitness(w)) return UNKNOWN;
        int was = now.struck[w] ? 1 : 0;
        now.struck[w] = is;
        return was;
    }

    private void oneDusk() {
        for (int s = 0; s < suits.size(); s++) {
            look(s);
        }
        for (int s = 0; s < suits.size(); s++) {
            if (now.how[s] == 0 && suits.get(s).lasts == now.day) {
                now.how[s] = 2;
                now.ended[s] = now.day;
            }
        }
        now.day++;
    }

    int dusk(int n) {
        if (n < 1 || n > 400) return OUTSIDE;
        for (int i = 0; i < n; i++) {
            if (now.day < 399) oneDusk();
        }
        return now.day;
    }

    int drift(int n, int q) {
        if (n < 1 || n > 60 || q < 0 || q > 100) return OUTSIDE;
        int spoke = 0;
        for (int i = 0; i < n; i++) {
            if (now.day == 399) break;
            for (int w = 0; w < witnesses.size(); w++) {
                now.seed = BigInteger.valueOf(now.seed).multiply(BigInteger.valueOf(1103515245))
                        .add(BigInteger.valueOf(12345)).mod(BigInteger.ONE.shiftLeft(31)).longValueExact();
                if (now.seed / 65536 % 100 < q && may(w)) {
                    say(w);
                    spoke++;
                }
            }
            oneDusk();
        }
        return spoke;
    }

    int begin() {
        int was = now.day;
        long seed = now.seed;
        now = new State();
        now.seed = seed;
        return was;
    }

    // ---- called

    /** All plans of a SUIT for day k, each a day for every WITNESS in order; null if they are too many. */
    private List<int[]> plans(int s, int k, int struck) {
        List<Integer> members = of(s);
        if (Math.pow(k + 2, members.size()) > MOST_PLANS) return null;
        List<int[]> all = new ArrayList<>();
        addPlans(members, k, struck, 0, new int[members.size()], all);
        return all;
    }

    private void addPlans(List<Integer> members, int k, int struck, int i, int[] days, List<int[]> all) {
        if (i == days.length) {
            all.add(days.clone());
            return;
        }
        days[i] = NONE;
        addPlans(members, k, struck, i + 1, days, all);
        int w = members.get(i);
        for (int d = 0; d <= k; d++) {
            if ((struck >> w & 1) == 1 || !free(w, now.day + d)) continue;
            int taken = d == 0 ? spokenOn(now.day) : 0;
            for (int j = 0; j < i; j++) {
                if (days[j] == d) taken++;
            }
            if (taken >= lawOn(now.day + d).talkers) continue;
            days[i] = d;
            addPlans(members, k, struck, i + 1, days, all);
        }
    }

    private BigInteger planned(int s, int k, int[] days) {
        BigInteger sum = exact(s, now.day).shiftRight(0);
        sum = sum.shiftLeft(31);
        List<Integer> members = of(s);
        for (int i = 0; i < days.length; i++) {
            if (days[i] != NONE) {
                BigInteger fresh = BigInteger.valueOf(fresh(members.get(i), now.day + days[i]));
                sum = sum.add(fresh.shiftLeft(POINT + 31 + days[i]));
            }
        }
        return sum.shiftRight(k);
    }

    private BigInteger greatest(int s, int k, int struck) {
        List<int[]> all = plans(s, k, struck);
        if (all == null) return null;
        BigInteger most = BigInteger.ZERO;
        for (int[] days : all) {
            most = most.max(planned(s, k, days));
        }
        return most;
    }

    int most(int s, int k) {
        if (noSuit(s)) return UNKNOWN;
        if (k < 0 || k > 30) return OUTSIDE;
        if (now.how[s] != 0 || now.day + k > 399) return NOT;
        BigInteger most = greatest(s, k, 0);
        return most == null ? SKIP : most.shiftRight(POINT + 31).intValueExact();
    }

    private int soonest(int s, int struck) {
        if (now.how[s] != 0) return NONE;
        for (int k = 0; k <= 30 && now.day + k <= 399; k++) {
            BigInteger most = greatest(s, k, struck);
            if (most == null) return SKIP;
            if (most.compareTo(goal(s).shiftLeft(31)) >= 0) return k;
        }
        return NONE;
    }

    int soonest(int s) {
        return noSuit(s) ? UNKNOWN : soonest(s, 0);
    }

    private static int speakers(int[] days) {
        return (int) Arrays.stream(days).filter(d -> d != NONE).count();
    }

    private static int speakerSet(int[] days) {
        int set = 0;
        for (int i = 0; i < days.length; i++) {
            if (days[i] != NONE) set |= 1 << i;
        }
        return set;
    }

    private static boolean isAhead(int[] a, int[] b) {
        if (speakers(a) != speakers(b)) return speakers(a) < speakers(b);
        if (speakerSet(a) != speakerSet(b)) return speakerSet(a) < speakerSet(b);
        for (int i = 0; i < a.length; i++) {
            if (a[i] != b[i]) return a[i] > b[i];
        }
        return false;
    }

    int plan(int w) {
        if (noWitness(w)) return UNKNOWN;
        int s = witnesses.get(w).suit;
        int k = soonest(s, 0);
        if (k == NONE || k == SKIP) return k;
        int[] first = null;
        for (int[] days : plans(s, k, 0)) {
            if (planned(s, k, days).compareTo(goal(s).shiftLeft(31)) >= 0 && (first == null || isAhead(days, first))) {
                first = days;
            }
        }
        return first[of(s).indexOf(w)];
    }

    int cut(int s) {
        if (noSuit(s)) return UNKNOWN;
        if (now.how[s] != 0) return NOT;
        int all = set(of(s));
        int fewest = NONE;
        for (int set = 0; set <= all; set++) {
            if ((set & ~all) != 0) continue;
            int k = soonest(s, set);
            if (k == SKIP) return SKIP;
            if (k == NONE && (fewest == NONE || Integer.bitCount(set) < Integer.bitCount(fewest))) fewest = set;
        }
        return fewest;
    }

    int turns(int s, int what) {
        if (noSuit(s)) return UNKNOWN;
        if (what != 0 && what != 1) return OUTSIDE;
        if (now.how[s] != 0) return NOT;
        List<Integer> pool = of(s);
        pool.removeIf(w -> !free(w, now.day));
        BigInteger whole = exact(s, now.day);
        if (what == 0) return inTurn(s, pool, whole) ? 1 : 0;
        for (int w : pool) {
            if (afterCall(s, pool, whole, w)) return w;
        }
        return NONE;
    }

    private boolean inTurn(int s, List<Integer> pool, BigInteger whole) {
        return whole.compareTo(goal(s)) >= 0 || pool.stream().anyMatch(w -> afterCall(s, pool, whole, w));
    }

    private boolean afterCall(int s, List<Integer> pool, BigInteger whole, int w) {
        BigInteger heard = whole.add(BigInteger.valueOf(fresh(w, now.day)).shiftLeft(POINT));
        if (heard.compareTo(goal(s)) >= 0) return true;
        List<Integer> others = new ArrayList<>(pool);
        others.remove((Integer) w);
        if (others.isEmpty()) return false;
        for (int struck : others) {
            List<Integer> left = new ArrayList<>(others);
            left.remove((Integer) struck);
            if (!inTurn(s, left, heard.shiftRight(1))) return false;
        }
        return true;
    }

    int many(int what) {
        if (what != 0 && what != 1) return OUTSIDE;
        List<Integer> going = new ArrayList<>();
        for (int s = 0; s < suits.size(); s++) {
            if (now.how[s] == 0) going.add(s);
        }
        int set = allOrders(going, new ArrayList<>(), NONE);
        return what == 0 ? Integer.bitCount(set) : set;
    }

    private int allOrders(List<Integer> left, List<Integer> order, int best) {
        if (left.isEmpty()) {
            int set = winners(order);
            boolean better = best == NONE || Integer.bitCount(set) > Integer.bitCount(best)
                    || Integer.bitCount(set) == Integer.bitCount(best) && set < best;
            return better ? set : best;
        }
        for (int s : left) {
            List<Integer> others = new ArrayList<>(left);
            others.remove((Integer) s);
            order.add(s);
            best = allOrders(others, order, best);
            order.remove(order.size() - 1);
        }
        return best;
    }

    private int winners(List<Integer> order) {
        int room = lawOn(now.day).talkers - spokenOn(now.day);
        int set = 0;
        for (int s : order) {
            BigInteger whole = exact(s, now.day);
            for (int w : of(s)) {
                if (whole.compareTo(goal(s)) < 0 && room > 0 && free(w, now.day)) {
                    whole = whole.add(BigInteger.valueOf(fresh(w, now.day)).shiftLeft(POINT));
                    room--;
                }
            }
            if (whole.compareTo(goal(s)) >= 0) set |= 1 << s;
        }
        return set;
    }

    // ---- books

    int write(int s, int thirds) {
        if (noSuit(s)) return UNKNOWN;
        if (thirds < 0 || thirds > 99999) return OUTSIDE;
        if (books.get(s).size() == 60) return FULL;
        books.get(s).add(thirds);
        return books.get(s).size();
    }

    int tear(int s) {
        if (noSuit(s)) return UNKNOWN;
        int had = books.get(s).size();
        books.get(s).clear();
        return had;
    }

    int judge(int s) {
        if (noSuit(s)) return UNKNOWN;
        for (int d = 0; d < books.get(s).size() && d < now.day; d++) {
            if (books.get(s).get(d) != evening(s, d)) return d;
        }
        return NONE;
    }

    int evening(int s, int day) {
        if (noSuit(s)) return UNKNOWN;
        if (day < 0 || day > 399) return OUTSIDE;
        return day >= now.day ? NONE : exact(s, day).shiftRight(POINT).intValueExact();
    }

    // ---- draws, images

    int seed(int v) {
        if (v < 0) return OUTSIDE;
        int was = (int) now.seed;
        now.seed = v;
        return was;
    }

    int keep(int i) {
        if (i != 0 && i != 1) return UNKNOWN;
        images[i] = now.copy();
        return 1;
    }

    int goBack(int i) {
        if (i != 0 && i != 1) return UNKNOWN;
        if (images[i] == null) return NOT;
        now = images[i].copy();
        return 1;
    }
}
