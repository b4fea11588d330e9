import java.math.BigInteger;
import java.util.ArrayList;
import java.util.Arrays;
import java.util.Collections;
import java.util.HashMap;
import java.util.List;
import java.util.Map;

/**
 * The document once more, told by its words as literally as can be and without thought of speed,
 * to hold the program against.
 */
final class Reference {
    static final int BAD = -1, STATE = -2, FULL = -3;

    private int kind = 0, rent = 1, rise = 0, cap = 1, price = 10;
    private int lastEnd = 20;
    private final int[] planShares = new int[42];
    private final int[] endShares = new int[42];
    private int things = 3;
    private final List<Integer> requests = new ArrayList<>();
    private long trace = 0;

    /** A fraction in least form, above a lower part that is above 0. */
    private record Fraction(BigInteger upper, BigInteger lower) implements Comparable<Fraction> {
        static Fraction of(long upper, long lower) {
            return new Fraction(BigInteger.valueOf(upper), BigInteger.valueOf(lower)).reduced();
        }

        Fraction reduced() {
            BigInteger divisor = upper.gcd(lower);
            return new Fraction(upper.divide(divisor), lower.divide(divisor));
        }

        Fraction plus(Fraction other) {
            BigInteger sum = upper.multiply(other.lower).add(other.upper.multiply(lower));
            return new Fraction(sum, lower.multiply(other.lower)).reduced();
        }

        Fraction times(long upperFactor, long lowerFactor) {
            return new Fraction(upper.multiply(BigInteger.valueOf(upperFactor)),
                    lower.multiply(BigInteger.valueOf(lowerFactor))).reduced();
        }

        long floor() {
            return upper.divide(lower).longValueExact();
        }

        long ceiling() {
            BigInteger[] parts = upper.divideAndRemainder(lower);
            return parts[0].longValueExact() + parts[1].signum();
        }

        long part(int which) {
            return (which == 0 ? upper : lower).longValueExact();
        }

        @Override
        public int compareTo(Fraction other) {
            return upper.multiply(other.lower).compareTo(other.upper.multiply(lower));
        }
    }

    int offer(int kind, int rent, int rise, int cap, int price) {
        if (kind < 0 || kind > 2 || rent < 1 || rent > 50 || price < 1 || price > 500) return BAD;
        if (kind >= 1 && (rise < 0 || rise > 20)) return BAD;
        if (kind == 2 && (cap < 1 || cap > 200)) return BAD;
        this.kind = kind;
        this.rent = rent;
        this.rise = rise;
        this.cap = cap;
        this.price = price;
        return knownBy(lastEnd);
    }

    int ends(int e) {
        if (e < 1 || e > 40) return BAD;
        int before = lastEnd;
        lastEnd = e;
        Arrays.fill(planShares, 0);
        Arrays.fill(endShares, 0);
        return before;
    }

    private int dayRent(int day) {
        int plain = rent;
        if (kind == 0) return plain;
        for (int ahead = 1; ahead < day; ahead++) plain += rise;
        return kind == 1 || plain < cap ? plain : cap;
    }

    int rent(int day) {
        if (day < 1 || day > 40) return BAD;
        trace += new int[] {1, 11, 111}[kind];
        return dayRent(day);
    }

    private int rents(int last) {
        int sum = 0;
        for (int day = 1; day <= last; day++) sum += dayRent(day);
        return sum;
    }

    private boolean noPlan(int plan) {
        return plan < 1 || plan > lastEnd + 1;
    }

    private boolean noEnd(int end) {
        return end < 1 || end > lastEnd;
    }

    private int costBy(int plan, int end) {
        return plan <= end ? rents(plan - 1) + price : rents(end);
    }

    private int knownBy(int end) {
        int least = Integer.MAX_VALUE;
        for (int plan = 1; plan <= lastEnd + 1; plan++) least = Math.min(least, costBy(plan, end));
        return least;
    }

    int cost(int plan, int end) {
        return noPlan(plan) || noEnd(end) ? BAD : costBy(plan, end);
    }

    int known(int end) {
        return noEnd(end) ? BAD : knownBy(end);
    }

    /** Ratios by plan and end for the present offer. */
    private Fraction[][] table() {
        Fraction[][] table = new Fraction[lastEnd + 2][lastEnd + 1];
        for (int end = 1; end <= lastEnd; end++) {
            int known = knownBy(end);
            for (int plan = 1; plan <= lastEnd + 1; plan++) table[plan][end] = Fraction.of(costBy(plan, end), known);
        }
        return table;
    }

    private Fraction worst(Fraction[] byEnd) {
        Fraction most = byEnd[1];
        for (int end = 1; end <= lastEnd; end++) if (byEnd[end].compareTo(most) > 0) most = byEnd[end];
        return most;
    }

    long ratio(int plan, int end, int part) {
        if (noPlan(plan) || end < 0 || end > lastEnd || part < 0 || part > 1) return BAD;
        Fraction[] byEnd = table()[plan];
        return (end == 0 ? worst(byEnd) : byEnd[end]).part(part);
    }

    int sure() {
        Fraction[][] table = table();
        List<Fraction> worsts = new ArrayList<>();
        for (int plan = 1; plan <= lastEnd + 1; plan++) worsts.add(worst(table[plan]));
        return worsts.indexOf(Collections.min(worsts)) + 1;
    }

    int share(int of, int which, int v) {
        if (of < 0 || of > 1 || v < 0 || v > 9) return BAD;
        if (of == 0 ? noPlan(which) : noEnd(which)) return BAD;
        int[] row = of == 0 ? planShares : endShares;
        int before = row[which];
        row[which] = v;
        return before;
    }

    private static int sum(int[] row) {
        int sum = 0;
        for (int v : row) sum += v;
        return sum;
    }

    private Fraction meanBy(Fraction[][] table, int end) {
        Fraction sum = Fraction.of(0, 1);
        for (int plan = 1; plan <= lastEnd + 1; plan++) sum = sum.plus(table[plan][end].times(planShares[plan], 1));
        return sum.times(1, sum(planShares));
    }

    long mean(int end, int part) {
        if (noEnd(end) || part < 0 || part > 1) return BAD;
        return sum(planShares) == 0 ? STATE : meanBy(table(), end).part(part);
    }

    long bound(int what) {
        if (what < 0 || what > 1) return BAD;
        if (sum(what == 0 ? planShares : endShares) == 0) return STATE;
        return what == 0 ? upperBound() : lowerBound();
    }

    private long upperBound() {
        Fraction[][] table = table();
        Fraction most = Fraction.of(0, 1);
        for (int end = 1; end <= lastEnd; end++) {
            Fraction mean = meanBy(table, end);
            if (mean.compareTo(most) > 0) most = mean;
        }
        return most.times(1000, 1).ceiling();
    }

    private long lowerBound() {
        Fraction[][] table = table();
        Fraction least = null;
        for (int plan = 1; plan <= lastEnd + 1; plan++) {
            Fraction sum = Fraction.of(0, 1);
            for (int end = 1; end <= lastEnd; end++) {
                Fraction rounded = Fraction.of(table[plan][end].times(1000000, 1).floor(), 1000000);
                sum = sum.plus(rounded.times(endShares[end], 1));
            }
            Fraction mean = sum.times(1, sum(endShares));
            if (least == null || mean.compareTo(least) < 0) least = mean;
        }
        return least.times(1000, 1).floor();
    }

    int guess(int g, int t) {
        if (noEnd(g) || t < 1 || t > 9) return BAD;
        int day = sure();
        if (costBy(1, g) < rents(g)) return (int) Math.ceil(day * t / 10.0);
        return Math.min(day * 10 / t, lastEnd + 1);
    }

    long trust(int g, int t, int what, int part) {
        if (noEnd(g) || t < 1 || t > 9 || what < 0 || what > 1 || part < 0 || part > 1) return BAD;
        return ratio(guess(g, t), what == 0 ? g : 0, part);
    }

    int list(int n) {
        if (n < 1 || n > 4) return BAD;
        int before = things;
        things = n;
        requests.clear();
        return before;
    }

    int request(int thing) {
        if (thing < 0 || thing >= things) return BAD;
        if (requests.size() == 16) return FULL;
        requests.add(thing);
        return requests.size();
    }

    int drop() {
        if (requests.isEmpty()) return STATE;
        requests.remove(requests.size() - 1);
        return requests.size();
    }

    private List<Integer> inOrder() {
        List<Integer> order = new ArrayList<>();
        for (int thing = 0; thing < things; thing++) order.add(thing);
        return order;
    }

    private static void allOrders(List<Integer> head, List<Integer> rest, List<List<Integer>> into) {
        if (rest.isEmpty()) into.add(new ArrayList<>(head));
        for (Integer next : rest) {
            List<Integer> longer = new ArrayList<>(head);
            longer.add(next);
            List<Integer> left = new ArrayList<>(rest);
            left.remove(next);
            allOrders(longer, left, into);
        }
    }

    private int stays(List<Integer> order) {
        int sum = 0;
        for (Integer thing : requests) sum += order.indexOf(thing) + 1;
        return sum;
    }

    private int front(List<Integer> order) {
        int sum = 0;
        for (Integer thing : requests) {
            sum += order.indexOf(thing) + 1;
            order.remove(thing);
            order.add(0, thing);
        }
        return sum;
    }

    /** How many pairs stand the other way round: the least exchanges of neighbours from one to the other. */
    private static int exchanges(List<Integer> from, List<Integer> to) {
        int count = 0;
        for (int i = 0; i < from.size(); i++) {
            for (int j = i + 1; j < from.size(); j++) {
                if (to.indexOf(from.get(i)) > to.indexOf(from.get(j))) count++;
            }
        }
        return count;
    }

    private int best() {
        List<List<Integer>> orders = new ArrayList<>();
        allOrders(new ArrayList<>(), inOrder(), orders);
        Map<List<Integer>, Integer> costs = new HashMap<>();
        costs.put(inOrder(), 0);
        for (Integer thing : requests) {
            Map<List<Integer>, Integer> next = new HashMap<>();
            for (Map.Entry<List<Integer>, Integer> from : costs.entrySet()) {
                for (List<Integer> to : orders) {
                    int place = to.indexOf(thing);
                    int cost = from.getValue() + exchanges(from.getKey(), to) + place + 1;
                    for (int ahead = 0; ahead <= place; ahead++) {
                        List<Integer> moved = new ArrayList<>(to);
                        moved.remove(thing);
                        moved.add(ahead, thing);
                        next.merge(moved, cost, Math::min);
                    }
                }
            }
            costs = next;
        }
        return costs.values().stream().min(Integer::compare).get();
    }

    int serve(int what) {
        if (what == 0) return front(inOrder());
        if (what == 1) return stays(inOrder());
        if (what == 3) return best();
        if (what != 2) return BAD;
        List<List<Integer>> orders = new ArrayList<>();
        allOrders(new ArrayList<>(), inOrder(), orders);
        return orders.stream().mapToInt(this::stays).min().getAsInt();
    }

    int at(int i) {
        if (i < 1 || i > things) return BAD;
        List<Integer> order = inOrder();
        front(order);
        return order.get(i - 1);
    }

    int count(int what) {
        int[] counts = {lastEnd, kind, things, requests.size()};
        return what < 0 || what > 3 ? BAD : counts[what];
    }

    long trace() {
        return trace;
    }
}
