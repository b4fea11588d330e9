/**
 * Choices made while the end is unknown, held against who knew it: rent or buy, lots over plans and
 * ends, guesses that are trusted so far, and a list whose things move to the front.
 */
public final class RentOrBuy {
    public static final int BAD = -1, STATE = -2, FULL = -3, NONE = -9;

    private static final int FLAT = 0, RISING = 1, CAPPED = 2;
    private static final int MOST_RENT = 50, MOST_RISE = 20, MOST_CAP = 200, MOST_PRICE = 500;
    private static final int FIRST_RENT = 1, FIRST_PRICE = 10;
    private static final int MOST_DAYS = 40, FIRST_DAYS = 20;
    private static final int MOST_SHARE = 9;
    private static final int TRUST_WHOLE = 10;
    private static final int MOST_THINGS = 4, FIRST_THINGS = 3, MOST_REQUESTS = 16;
    private static final long THOUSAND = 1000, MILLION = 1000000;

    private final Plans plans;
    private final Lots lots;
    private final Shelf shelf;
    private long traced;

    public RentOrBuy() {
        plans = new Plans();
        lots = new Lots();
        shelf = new Shelf();
        traced = 0;
    }

    // ---- an offer

    public int offer(int kind, int rent, int rise, int cap, int price) {
        if (!isWithin(kind, FLAT, CAPPED) || !isWithin(rent, 1, MOST_RENT) || !isWithin(price, 1, MOST_PRICE)) {
            return BAD;
        }
        if (kind != FLAT && !isWithin(rise, 0, MOST_RISE)) {
            return BAD;
        }
        if (kind == CAPPED && !isWithin(cap, 1, MOST_CAP)) {
            return BAD;
        }
        plans.take(kind == FLAT ? new Flat(rent, price)
                : kind == RISING ? new Rising(rent, rise, price)
                : new Capped(rent, rise, cap, price));
        return plans.knownBy(plans.days);
    }

    public int ends(int e) {
        if (!isWithin(e, 1, MOST_DAYS)) {
            return BAD;
        }
        int before = plans.days;
        plans.days = e;
        lots.clearAll();
        return before;
    }

    public int rent(int day) {
        if (!isWithin(day, 1, MOST_DAYS)) {
            return BAD;
        }
        traced += plans.taken.bodiesAsked();
        return plans.taken.rentOf(day);
    }

    public int cost(int plan, int end) {
        if (!plans.isPlan(plan) || !plans.isEnd(end)) {
            return BAD;
        }
        return plans.costOf(plan, end);
    }

    public int known(int end) {
        if (!plans.isEnd(end)) {
            return BAD;
        }
        return plans.knownBy(end);
    }

    public int ratio(int plan, int end, int part) {
        if (!plans.isPlan(plan) || (end != 0 && !plans.isEnd(end)) || !isWithin(part, 0, 1)) {
            return BAD;
        }
        return plans.ratioPart(plan, end == 0 ? plans.worstEnd(plan) : end, part);
    }

    public int sure() {
        return plans.surePlan();
    }

    // ---- lots, guesses

    public int share(int of, int which, int v) {
        if (!isWithin(of, 0, 1) || !isWithin(v, 0, MOST_SHARE)) {
            return BAD;
        }
        if (of == 0 ? !plans.isPlan(which) : !plans.isEnd(which)) {
            return BAD;
        }
        return Lots.replace(of == 0 ? lots.ofPlans : lots.ofEnds, which, v);
    }

    public long mean(int end, int part) {
        if (!plans.isEnd(end) || !isWithin(part, 0, 1)) {
            return BAD;
        }
        int total = Lots.total(lots.ofPlans);
        if (total == 0) {
            return STATE;
        }
        return leastForm(lots.costsBy(plans, end), (long) plans.knownBy(end) * total, part);
    }

    public int bound(int what) {
        if (!isWithin(what, 0, 1)) {
            return BAD;
        }
        int total = Lots.total(what == 0 ? lots.ofPlans : lots.ofEnds);
        if (total == 0) {
            return STATE;
        }
        return (int) (what == 0 ? lots.upperBound(plans, total) : lots.lowerBound(plans, total));
    }

    public int guess(int g, int t) {
        if (!plans.isEnd(g) || !isWithin(t, 1, TRUST_WHOLE - 1)) {
            return BAD;
        }
        return plans.planByGuess(g, t);
    }

    public int trust(int g, int t, int what, int part) {
        if (!plans.isEnd(g) || !isWithin(t, 1, TRUST_WHOLE - 1)) {
            return BAD;
        }
        if (!isWithin(what, 0, 1) || !isWithin(part, 0, 1)) {
            return BAD;
        }
        int plan = plans.planByGuess(g, t);
        return plans.ratioPart(plan, what == 0 ? g : plans.worstEnd(plan), part);
    }

    // ---- a list

    public int list(int n) {
        if (!isWithin(n, 1, MOST_THINGS)) {
            return BAD;
        }
        int before = shelf.things;
        shelf.restart(n);
        return before;
    }

    public int request(int thing) {
        if (!isWithin(thing, 0, shelf.things - 1)) {
            return BAD;
        }
        if (shelf.requests >= MOST_REQUESTS) {
            return FULL;
        }
        shelf.asked[shelf.requests] = thing;
        shelf.requests++;
        return shelf.requests;
    }

    public int drop() {
        if (shelf.requests == 0) {
            return STATE;
        }
        shelf.requests--;
        return shelf.requests;
    }

    public int serve(int what) {
        switch (what) {
            case 0:
                return shelf.frontCost();
            case 1:
                return shelf.stayCost(shelf.firstOrder());
            case 2:
                return shelf.bestStayCost();
            case 3:
                return shelf.bestCost();
            default:
                return BAD;
        }
    }

    public int at(int i) {
        if (!isWithin(i, 1, shelf.things)) {
            return BAD;
        }
        return Shelf.thingAt(shelf.frontOrder(), i - 1);
    }

    public int count(int what) {
        switch (what) {
            case 0:
                return plans.days;
            case 1:
                return plans.taken.kindNumber();
            case 2:
                return shelf.things;
            case 3:
                return shelf.requests;
            default:
                return BAD;
        }
    }

    public long trace() {
        return traced;
    }

    // ---- numbers

    private static boolean isWithin(int value, int least, int most) {
        return least <= value && value <= most;
    }

    /** Both parts are 1 or more wherever this is called; the tests of divisors keep any other pair harmless. */
    private static long leastForm(long upper, long lower, int part) {
        return roundedDown(part == 0 ? upper : lower, commonDivisor(upper, lower));
    }

    private static long commonDivisor(long upper, long lower) {
        long divisor = upper;
        long rest = lower;
        // Euclid's steps on two longs stay below 100.
        for (int step = 0; step < 100 && rest != 0; step++) {
            long next = divisor % rest;
            divisor = rest;
            rest = next;
        }
        return divisor;
    }

    private static long roundedDown(long upper, long lower) {
        return lower > 0 ? upper / lower : 0;
    }

    private static long roundedUp(long upper, long lower) {
        return roundedDown(upper + lower - 1, lower);
    }

    // ---- kinds of offers: each stands over the one that extends it

    private static class Flat {
        private final int dayRent;
        private final int price;

        Flat(int dayRent, int price) {
            this.dayRent = dayRent;
            this.price = price;
        }

        int kindNumber() {
            return FLAT;
        }

        int rentOf(int day) {
            return dayRent;
        }

        /** The numbers of the bodies that rentOf goes through, for the trace. */
        int bodiesAsked() {
            return 1;
        }
    }

    private static class Rising extends Flat {
        private final int rise;

        Rising(int dayRent, int rise, int price) {
            super(dayRent, price);
            this.rise = rise;
        }

        int kindNumber() {
            return RISING;
        }

        int rentOf(int day) {
            return super.rentOf(day) + rise * (day - 1);
        }

        int bodiesAsked() {
            return super.bodiesAsked() + 10;
        }
    }

    private static final class Capped extends Rising {
        private final int cap;

        Capped(int dayRent, int rise, int cap, int price) {
            super(dayRent, rise, price);
            this.cap = cap;
        }

        int kindNumber() {
            return CAPPED;
        }

        int rentOf(int day) {
            return Math.min(super.rentOf(day), cap);
        }

        int bodiesAsked() {
            return super.bodiesAsked() + 100;
        }
    }

    // ---- what plans cost by each end

    private static final class Plans {
        private int days;
        private Flat taken;
        /** At d: the rents of days 1 .. d. */
        private final int[] rents;

        Plans() {
            days = FIRST_DAYS;
            taken = new Flat(FIRST_RENT, FIRST_PRICE);
            rents = new int[MOST_DAYS + 1];
            // Summed without asking the offer: a constructor calls nothing that could be overridden.
            for (int day = 1; day <= MOST_DAYS; day++) {
                rents[day] = rents[day - 1] + FIRST_RENT;
            }
        }

        void take(Flat next) {
            taken = next;
            for (int day = 1; day <= MOST_DAYS; day++) {
                rents[day] = rents[day - 1] + next.rentOf(day);
            }
        }

        boolean isPlan(int plan) {
            return isWithin(plan, 1, days + 1);
        }

        boolean isEnd(int end) {
            return isWithin(end, 1, days);
        }

        int costOf(int plan, int end) {
            return plan <= end ? rents[plan - 1] + taken.price : rents[end];
        }

        /** To buy later costs more than on day 1, so day 1 and never are the only plans that can be least. */
        int knownBy(int end) {
            return Math.min(taken.price, rents[end]);
        }

        int ratioPart(int plan, int end, int part) {
            return (int) leastForm(costOf(plan, end), knownBy(end), part);
        }

        boolean isRatioGreater(int plan, int end, int otherPlan, int otherEnd) {
            return (long) costOf(plan, end) * knownBy(otherEnd) > (long) costOf(otherPlan, otherEnd) * knownBy(end);
        }

        int worstEnd(int plan) {
            int worst = 1;
            for (int end = 2; end <= days; end++) {
                if (isRatioGreater(plan, end, plan, worst)) {
                    worst = end;
                }
            }
            return worst;
        }

        int surePlan() {
            int best = 1;
            int bestEnd = worstEnd(1);
            for (int plan = 2; plan <= days + 1; plan++) {
                int end = worstEnd(plan);
                if (isRatioGreater(best, bestEnd, plan, end)) {
                    best = plan;
                    bestEnd = end;
                }
            }
            return best;
        }

        int planByGuess(int guessed, int trusted) {
            int day = surePlan();
            if (costOf(1, guessed) < rents[guessed]) {
                return (int) roundedUp((long) day * trusted, TRUST_WHOLE);
            }
            return (int) Math.min(roundedDown((long) day * TRUST_WHOLE, trusted), days + 1);
        }
    }

    // ---- lots over plans and over ends

    private static final class Lots {
        private final int[] ofPlans;
        private final int[] ofEnds;

        Lots() {
            ofPlans = new int[MOST_DAYS + 2];
            ofEnds = new int[MOST_DAYS + 2];
        }

        void clearAll() {
            for (int i = 0; i < MOST_DAYS + 2; i++) {
                ofPlans[i] = 0;
                ofEnds[i] = 0;
            }
        }

        static int replace(int[] shares, int which, int value) {
            int before = shares[which];
            shares[which] = value;
            return before;
        }

        static int total(int[] shares) {
            int sum = 0;
            for (int value : shares) {
                sum += value;
            }
            return sum;
        }

        /** All ratios by one end stand over the same known cost, so the mean needs the costs alone. */
        long costsBy(Plans plans, int end) {
            long sum = 0;
            for (int plan = 1; plan <= plans.days + 1; plan++) {
                sum += (long) ofPlans[plan] * plans.costOf(plan, end);
            }
            return sum;
        }

        long upperBound(Plans plans, int total) {
            long most = 0;
            for (int end = 1; end <= plans.days; end++) {
                long mean = roundedUp(costsBy(plans, end) * THOUSAND, (long) plans.knownBy(end) * total);
                most = Math.max(most, mean);
            }
            return most;
        }

        long lowerBound(Plans plans, int total) {
            long least = millionthsOf(plans, 1);
            for (int plan = 2; plan <= plans.days + 1; plan++) {
                least = Math.min(least, millionthsOf(plans, plan));
            }
            return roundedDown(least, total * (MILLION / THOUSAND));
        }

        private long millionthsOf(Plans plans, int plan) {
            long sum = 0;
            for (int end = 1; end <= plans.days; end++) {
                sum += ofEnds[end] * roundedDown(plans.costOf(plan, end) * MILLION, plans.knownBy(end));
            }
            return sum;
        }
    }

    // ---- a list and its requests

    /**
     * An order of the list is one number with two bits a place, the front lowest, so that going
     * through orders makes no objects. Places count from 0 in here.
     */
    private static final class Shelf {
        private static final int BITS = 2, MASK = 3, CODES = 256, MOST_ORDERS = 24;
        /** Above what 16 requests can cost. */
        private static final int FAR = 1000000;

        private int things;
        private int requests;
        private final int[] asked;
        private int orderCount;
        private final int[] orders;
        /** By an order's number: the least cost that leads to it so far. */
        private final int[] least;

        Shelf() {
            asked = new int[MOST_REQUESTS];
            orders = new int[MOST_ORDERS];
            least = new int[CODES];
            things = FIRST_THINGS;
            requests = 0;
            findOrders();
        }

        void restart(int n) {
            things = n;
            requests = 0;
            findOrders();
        }

        private void findOrders() {
            orderCount = 0;
            for (int code = 0; code < CODES && orderCount < MOST_ORDERS; code++) {
                if (isOrder(code)) {
                    orders[orderCount] = code;
                    orderCount++;
                }
            }
        }

        private boolean isOrder(int code) {
            int met = 0;
            for (int place = 0; place < things; place++) {
                met |= 1 << thingAt(code, place);
            }
            return met == (1 << things) - 1 && code >> (BITS * things) == 0;
        }

        int firstOrder() {
            int order = 0;
            for (int thing = 0; thing < things; thing++) {
                order |= thing << (BITS * thing);
            }
            return order;
        }

        static int thingAt(int order, int place) {
            return (order >> (BITS * place)) & MASK;
        }

        private int placeOf(int order, int thing) {
            int place = 0;
            while (place < things - 1 && thingAt(order, place) != thing) {
                place++;
            }
            return place;
        }

        /** The order with the things at a place and at the one behind it exchanged. */
        private static int exchanged(int order, int place) {
            int change = thingAt(order, place) ^ thingAt(order, place + 1);
            return order ^ (change << (BITS * place)) ^ (change << (BITS * (place + 1)));
        }

        private int movedToFront(int order, int thing) {
            int moved = order;
            for (int place = placeOf(order, thing); place > 0; place--) {
                moved = exchanged(moved, place - 1);
            }
            return moved;
        }

        int frontOrder() {
            int order = firstOrder();
            for (int i = 0; i < requests; i++) {
                order = movedToFront(order, asked[i]);
            }
            return order;
        }

        int frontCost() {
            int order = firstOrder();
            int sum = 0;
            for (int i = 0; i < requests; i++) {
                sum += placeOf(order, asked[i]) + 1;
                order = movedToFront(order, asked[i]);
            }
            return sum;
        }

        int stayCost(int order) {
            int sum = 0;
            for (int i = 0; i < requests; i++) {
                sum += placeOf(order, asked[i]) + 1;
            }
            return sum;
        }

        int bestStayCost() {
            int best = FAR;
            for (int i = 0; i < orderCount; i++) {
                best = Math.min(best, stayCost(orders[i]));
            }
            return best;
        }

        int bestCost() {
            for (int i = 0; i < orderCount; i++) {
                least[orders[i]] = FAR;
            }
            least[firstOrder()] = 0;
            for (int i = 0; i < requests; i++) {
                exchangeNeighbours();
                payPlaces(asked[i]);
                moveAhead(asked[i]);
            }
            int best = FAR;
            for (int i = 0; i < orderCount; i++) {
                best = Math.min(best, least[orders[i]]);
            }
            return best;
        }

        /** As many rounds as exchanges can lie between two orders; less where a round finds nothing. */
        private void exchangeNeighbours() {
            boolean found = true;
            for (int round = 0; found && round < things * (things - 1) / 2; round++) {
                found = false;
                for (int i = 0; i < orderCount; i++) {
                    if (exchangeIn(orders[i])) {
                        found = true;
                    }
                }
            }
        }

        private boolean exchangeIn(int order) {
            boolean found = false;
            for (int place = 0; place + 1 < things; place++) {
                int other = exchanged(order, place);
                if (least[order] + 1 < least[other]) {
                    least[other] = least[order] + 1;
                    found = true;
                }
            }
            return found;
        }

        private void payPlaces(int thing) {
            for (int i = 0; i < orderCount; i++) {
                least[orders[i]] += placeOf(orders[i], thing) + 1;
            }
        }

        /** From the back on, so that a thing that came one place ahead can go on from there. */
        private void moveAhead(int thing) {
            for (int place = things - 1; place > 0; place--) {
                for (int i = 0; i < orderCount; i++) {
                    if (thingAt(orders[i], place) == thing) {
                        int ahead = exchanged(orders[i], place - 1);
                        least[ahead] = Math.min(least[ahead], least[orders[i]]);
                    }
                }
            }
        }
    }
}
