/** Promises 1 to 8: one test for each boundary that the document names, on both sides of it. */
public final class OfferEdgesTest {
    private static final int BAD = RentOrBuy.BAD, STATE = RentOrBuy.STATE;
    private static final int FLAT = 0, RISING = 1, CAPPED = 2;
    private static final int[] BEYOND_INTS = {Integer.MIN_VALUE, Integer.MAX_VALUE};

    private OfferEdgesTest() {
    }

    public static void main(String[] args) throws ReflectiveOperationException {
        Due.runPromises(OfferEdgesTest.class);
    }

    private static RentOrBuy withEnds(int e) {
        RentOrBuy x = new RentOrBuy();
        x.ends(e);
        return x;
    }

    private static RentOrBuy withOffer(int e, int kind, int rent, int rise, int cap, int price) {
        RentOrBuy x = withEnds(e);
        x.offer(kind, rent, rise, cap, price);
        return x;
    }

    private static void dueRatio(RentOrBuy x, int plan, int end, int upper, int lower) {
        Due.is("ratio(" + plan + ", " + end + ", 0)", x.ratio(plan, end, 0), upper);
        Due.is("ratio(" + plan + ", " + end + ", 1)", x.ratio(plan, end, 1), lower);
    }

    // ---- 1 a new object

    private static void promise1Offer() {
        RentOrBuy x = new RentOrBuy();
        Due.is("kind", x.count(1), FLAT);
        for (int day = 1; day <= 40; day++) {
            Due.is("rent(" + day + ")", x.rent(day), 1);
        }
        Due.is("price", x.cost(1, 1), 10);
    }

    private static void promise1Ends() {
        RentOrBuy x = new RentOrBuy();
        Due.is("E", x.count(0), 20);
        Due.is("the last end", x.known(20), 10);
        Due.is("no end", x.known(21), BAD);
        Due.is("the last plan", x.cost(21, 20), 20);
        Due.is("no plan", x.cost(22, 20), BAD);
    }

    private static void promise1Shares() {
        RentOrBuy x = new RentOrBuy();
        Due.is("no share of a plan", x.bound(0), STATE);
        Due.is("no share of an end", x.bound(1), STATE);
        for (int plan = 1; plan <= 21; plan++) {
            Due.is("share of plan " + plan, x.share(0, plan, 0), 0);
        }
        for (int end = 1; end <= 20; end++) {
            Due.is("share of end " + end, x.share(1, end, 0), 0);
        }
    }

    private static void promise1List() {
        RentOrBuy x = new RentOrBuy();
        Due.is("things", x.count(2), 3);
        Due.is("requests", x.count(3), 0);
        Due.is("at(1)", x.at(1), 0);
        Due.is("at(2)", x.at(2), 1);
        Due.is("at(3)", x.at(3), 2);
        Due.is("at(4)", x.at(4), BAD);
        Due.is("drop", x.drop(), STATE);
    }

    private static void promise1Trace() {
        Due.is("trace", new RentOrBuy().trace(), 0);
    }

    private static void promise1ObjectsAreApart() {
        RentOrBuy x = new RentOrBuy();
        RentOrBuy other = new RentOrBuy();
        other.ends(7);
        other.offer(RISING, 4, 4, 4, 44);
        other.share(0, 1, 1);
        other.share(1, 1, 1);
        other.list(2);
        other.request(1);
        other.rent(1);
        Due.is("E", x.count(0), 20);
        Due.is("kind", x.count(1), FLAT);
        Due.is("known", x.known(20), 10);
        Due.is("share of a plan", x.share(0, 1, 0), 0);
        Due.is("share of an end", x.share(1, 1, 0), 0);
        Due.is("things", x.count(2), 3);
        Due.is("requests", x.count(3), 0);
        Due.is("trace", x.trace(), 0);
    }

    // ---- 2 offer

    private static void promise2Kind() {
        RentOrBuy x = new RentOrBuy();
        Due.limits("kind", FLAT, CAPPED, kind -> x.offer(kind, 1, 1, 1, 1));
        for (int kind = FLAT; kind <= CAPPED; kind++) {
            Due.is("kind " + kind, x.offer(kind, 1, 1, 1, 1), 1);
            Due.is("kind " + kind, x.count(1), kind);
        }
    }

    private static void promise2Rent() {
        for (int kind = FLAT; kind <= CAPPED; kind++) {
            int k = kind;
            RentOrBuy x = withEnds(1);
            Due.limits("rent of kind " + k, 1, 50, rent -> x.offer(k, rent, 20, 200, 500));
            Due.is("least rent of kind " + k, x.offer(k, 1, 20, 200, 500), 1);
            Due.is("greatest rent of kind " + k, x.offer(k, 50, 20, 200, 500), 50);
        }
    }

    private static void promise2Rise() {
        for (int kind = RISING; kind <= CAPPED; kind++) {
            int k = kind;
            RentOrBuy x = withEnds(2);
            Due.limits("rise of kind " + k, 0, 20, rise -> x.offer(k, 1, rise, 200, 500));
            Due.is("least rise of kind " + k, x.offer(k, 1, 0, 200, 500), 1 + 1);
            Due.is("greatest rise of kind " + k, x.offer(k, 1, 20, 200, 500), 1 + 21);
        }
    }

    private static void promise2RiseOfFlatIsNotLookedAt() {
        RentOrBuy x = withEnds(2);
        int[] rises = {-1, 0, 20, 21, Integer.MIN_VALUE, Integer.MAX_VALUE};
        for (int rise : rises) {
            Due.is("flat with rise " + rise, x.offer(FLAT, 3, rise, 200, 500), 6);
            Due.is("rent(40) with rise " + rise, x.rent(40), 3);
        }
    }

    private static void promise2Cap() {
        RentOrBuy x = withEnds(1);
        Due.limits("cap", 1, 200, cap -> x.offer(CAPPED, 50, 20, cap, 500));
        Due.is("least cap", x.offer(CAPPED, 50, 20, 1, 500), 1);
        Due.is("least cap", x.rent(40), 1);
        Due.is("greatest cap", x.offer(CAPPED, 50, 20, 200, 500), 50);
        Due.is("greatest cap", x.rent(40), 200);
    }

    private static void promise2CapOfOtherKindsIsNotLookedAt() {
        RentOrBuy x = withEnds(2);
        int[] caps = {-1, 0, 1, 200, 201, Integer.MIN_VALUE, Integer.MAX_VALUE};
        for (int cap : caps) {
            Due.is("flat with cap " + cap, x.offer(FLAT, 3, 4, cap, 500), 6);
            Due.is("rising with cap " + cap, x.offer(RISING, 3, 4, cap, 500), 10);
            Due.is("rent(40) with cap " + cap, x.rent(40), 3 + 39 * 4);
        }
    }

    private static void promise2Price() {
        for (int kind = FLAT; kind <= CAPPED; kind++) {
            int k = kind;
            RentOrBuy x = withEnds(40);
            Due.limits("price of kind " + k, 1, 500, price -> x.offer(k, 50, 20, 200, price));
            Due.is("least price of kind " + k, x.offer(k, 50, 20, 200, 1), 1);
            Due.is("greatest price of kind " + k, x.offer(k, 50, 20, 200, 500), 500);
        }
    }

    private static void promise2KnownByE() {
        RentOrBuy x = withEnds(5);
        Due.is("the price is less than all rents", x.offer(FLAT, 2, 0, 0, 9), 9);
        Due.is("the price is as all rents", x.offer(FLAT, 2, 0, 0, 10), 10);
        Due.is("the price is more than all rents", x.offer(FLAT, 2, 0, 0, 11), 10);
        Due.is("by the least E", withEnds(1).offer(FLAT, 2, 0, 0, 500), 2);
        Due.is("by the greatest E", withEnds(40).offer(FLAT, 2, 0, 0, 500), 80);
    }

    private static void promise2InPlaceOfTheOneBefore() {
        RentOrBuy x = new RentOrBuy();
        x.offer(CAPPED, 2, 3, 7, 40);
        Due.is("capped", x.rent(4), 7);
        x.offer(RISING, 2, 3, 7, 41);
        Due.is("no cap of the one before", x.rent(4), 11);
        Due.is("its own price", x.cost(1, 1), 41);
        x.offer(FLAT, 2, 3, 7, 42);
        Due.is("no rise of the one before", x.rent(4), 2);
        Due.is("its own price", x.cost(1, 1), 42);
        Due.is("its own rents", x.cost(21, 20), 40);
        x.offer(FLAT, 3, 3, 7, 43);
        Due.is("the same kind again", x.cost(21, 20), 60);
        Due.is("the same kind again", x.cost(1, 1), 43);
    }

    /** Promise 3 alone says that shares become 0. */
    private static void promise2AllSharesStay() {
        RentOrBuy x = withEnds(40);
        for (int i = 1; i <= 41; i++) {
            x.share(0, i, i % 10);
            x.share(1, i, 9 - i % 10);
        }
        x.offer(CAPPED, 2, 3, 7, 40);
        for (int plan = 1; plan <= 41; plan++) {
            Due.is("share of plan " + plan, x.share(0, plan, 0), plan % 10);
        }
        for (int end = 1; end <= 40; end++) {
            Due.is("share of end " + end, x.share(1, end, 0), 9 - end % 10);
        }
    }

    private static void promise2SharesStayInMeansAndBounds() {
        RentOrBuy x = new RentOrBuy();
        x.share(0, 1, 3);
        x.share(1, 1, 4);
        x.offer(FLAT, 1, 0, 0, 30);
        Due.is("mean of the new offer", x.mean(1, 0), 30);
        Due.is("upper bound of the new offer", x.bound(0), 30000);
        x.offer(FLAT, 50, 0, 0, 25);
        Due.is("mean of the new offer", x.mean(1, 0), 1);
        Due.is("lower bound of the new offer", x.bound(1), 1000);
    }

    private static void promise2NothingElseChanges() {
        RentOrBuy x = withEnds(33);
        x.list(4);
        x.request(3);
        x.rent(1);
        x.offer(CAPPED, 2, 3, 7, 40);
        Due.is("E", x.count(0), 33);
        Due.is("things", x.count(2), 4);
        Due.is("requests", x.count(3), 1);
        Due.is("front", x.at(1), 3);
        Due.is("trace", x.trace(), 1);
    }

    // ---- 3 ends

    private static void promise3E() {
        RentOrBuy x = new RentOrBuy();
        Due.limits("E", 1, 40, x::ends);
        x.ends(1);
        Due.is("E as small as can be", x.count(0), 1);
        x.ends(40);
        Due.is("E as large as can be", x.count(0), 40);
    }

    private static void promise3WhatItWas() {
        RentOrBuy x = new RentOrBuy();
        Due.is("at first", x.ends(1), 20);
        Due.is("the least", x.ends(40), 1);
        Due.is("the greatest", x.ends(40), 40);
        Due.is("the same again", x.ends(20), 40);
    }

    private static void promise3AllSharesAre0() {
        RentOrBuy x = withEnds(40);
        for (int i = 1; i <= 41; i++) {
            x.share(0, i, 9);
            x.share(1, i, 9);
        }
        x.ends(40);
        for (int plan = 1; plan <= 41; plan++) {
            Due.is("share of plan " + plan, x.share(0, plan, 0), 0);
        }
        for (int end = 1; end <= 40; end++) {
            Due.is("share of end " + end, x.share(1, end, 0), 0);
        }
    }

    private static void promise3SharesAre0ForMeansAndBounds() {
        RentOrBuy x = new RentOrBuy();
        x.share(0, 21, 1);
        x.share(1, 20, 1);
        x.ends(20);
        Due.is("mean", x.mean(1, 0), STATE);
        Due.is("upper bound", x.bound(0), STATE);
        Due.is("lower bound", x.bound(1), STATE);
    }

    private static void promise3SharesBehindASmallerE() {
        RentOrBuy x = withEnds(40);
        x.share(0, 41, 9);
        x.share(1, 40, 9);
        x.ends(1);
        Due.is("no share of a plan is left", x.bound(0), STATE);
        Due.is("no share of an end is left", x.bound(1), STATE);
        x.ends(40);
        Due.is("none comes back", x.share(0, 41, 0), 0);
        Due.is("none comes back", x.share(1, 40, 0), 0);
    }

    private static void promise3PlansAndEndsFollow() {
        for (int e : new int[] {1, 2, 39, 40}) {
            RentOrBuy x = withEnds(e);
            Due.limits("end of E " + e, 1, e, x::known);
            Due.limits("plan of E " + e, 1, e + 1, plan -> x.cost(plan, e));
        }
    }

    private static void promise3NothingElseChanges() {
        RentOrBuy x = new RentOrBuy();
        x.offer(CAPPED, 2, 3, 7, 400);
        x.list(4);
        x.request(3);
        x.rent(1);
        x.ends(40);
        Due.is("kind", x.count(1), CAPPED);
        Due.is("known", x.known(40), 2 + 5 + 38 * 7);
        Due.is("price", x.cost(1, 40), 400);
        Due.is("things", x.count(2), 4);
        Due.is("requests", x.count(3), 1);
        Due.is("front", x.at(1), 3);
        Due.is("trace", x.trace(), 111);
    }

    // ---- 4 rent

    private static void promise4Day() {
        for (int kind = FLAT; kind <= CAPPED; kind++) {
            RentOrBuy x = withOffer(20, kind, 3, 2, 200, 50);
            Due.limits("day of kind " + kind, 1, 40, x::rent);
        }
    }

    private static void promise4DaysBehindE() {
        RentOrBuy x = withOffer(1, RISING, 3, 2, 0, 50);
        Due.is("the last end", x.rent(1), 3);
        Due.is("a day behind it", x.rent(2), 5);
        Due.is("the last day", x.rent(40), 3 + 39 * 2);
        Due.is("no day", x.rent(41), BAD);
    }

    private static void promise4Rising() {
        RentOrBuy x = withOffer(20, RISING, 50, 20, 0, 500);
        Due.is("no rise on day 1", x.rent(1), 50);
        Due.is("one rise on day 2", x.rent(2), 70);
        Due.is("the greatest of all rents", x.rent(40), 830);
        x.offer(RISING, 7, 0, 0, 500);
        Due.is("rise 0", x.rent(1), 7);
        Due.is("rise 0", x.rent(40), 7);
    }

    private static void promise4Cap() {
        RentOrBuy x = withOffer(20, CAPPED, 1, 1, 5, 500);
        Due.is("below the cap", x.rent(4), 4);
        Due.is("as the cap", x.rent(5), 5);
        Due.is("above the cap", x.rent(6), 5);
    }

    private static void promise4CapBesideTheRent() {
        RentOrBuy x = withOffer(20, CAPPED, 5, 1, 6, 500);
        Due.is("the rent is below the cap", x.rent(1), 5);
        x.offer(CAPPED, 5, 1, 5, 500);
        Due.is("the rent is as the cap", x.rent(1), 5);
        x.offer(CAPPED, 5, 1, 4, 500);
        Due.is("the rent is above the cap", x.rent(1), 4);
        Due.is("and stays so", x.rent(40), 4);
    }

    // ---- 5 cost

    private static void promise5Plan() {
        for (int e : new int[] {1, 20, 40}) {
            RentOrBuy x = withEnds(e);
            Due.limits("plan by the first end of " + e, 1, e + 1, plan -> x.cost(plan, 1));
            Due.limits("plan by the last end of " + e, 1, e + 1, plan -> x.cost(plan, e));
        }
    }

    private static void promise5End() {
        for (int e : new int[] {1, 20, 40}) {
            RentOrBuy x = withEnds(e);
            Due.limits("end of the first plan of " + e, 1, e, end -> x.cost(1, end));
            Due.limits("end of the last plan of " + e, 1, e, end -> x.cost(e + 1, end));
        }
    }

    private static void promise5BothAreBad() {
        for (int plan : BEYOND_INTS) {
            for (int end : BEYOND_INTS) {
                Due.is("cost", new RentOrBuy().cost(plan, end), BAD);
            }
        }
    }

    private static void promise5BuysBesideTheEnd() {
        RentOrBuy x = withOffer(20, RISING, 2, 3, 0, 40); // 2 5 8 11 14
        Due.is("a day ahead of the end", x.cost(3, 4), 2 + 5 + 40);
        Due.is("on the end", x.cost(4, 4), 2 + 5 + 8 + 40);
        Due.is("a day behind the end", x.cost(5, 4), 2 + 5 + 8 + 11);
    }

    private static void promise5BuysOnDay1() {
        RentOrBuy x = withOffer(40, RISING, 2, 3, 0, 40);
        Due.is("by the first end", x.cost(1, 1), 40);
        Due.is("by the last end", x.cost(1, 40), 40);
    }

    private static void promise5Never() {
        for (int e : new int[] {1, 2, 20, 39, 40}) {
            RentOrBuy x = withOffer(e, FLAT, 3, 0, 0, 100);
            Due.is("on the last day of " + e, x.cost(e, e), 3 * (e - 1) + 100);
            Due.is("never of " + e, x.cost(e + 1, e), 3 * e);
            Due.is("never of " + e + " by the first end", x.cost(e + 1, 1), 3);
        }
    }

    private static void promise5GreatestCosts() {
        RentOrBuy x = withOffer(40, RISING, 50, 20, 0, 500);
        Due.is("on the last day", x.cost(40, 40), 39 * 50 + 20 * 741 + 500);
        Due.is("never", x.cost(41, 40), 40 * 50 + 20 * 780);
    }

    // ---- 6 known

    private static void promise6End() {
        for (int e : new int[] {1, 20, 40}) {
            Due.limits("end of E " + e, 1, e, withEnds(e)::known);
        }
    }

    private static void promise6RentsBesideThePrice() {
        RentOrBuy x = new RentOrBuy();
        Due.is("the rents are less", x.known(9), 9);
        Due.is("the rents are as the price", x.known(10), 10);
        Due.is("the rents are more", x.known(11), 10);
    }

    private static void promise6FirstEnd() {
        Due.is("the price is less than one rent", withOffer(1, FLAT, 3, 0, 0, 2).known(1), 2);
        Due.is("the price is as one rent", withOffer(1, FLAT, 3, 0, 0, 3).known(1), 3);
        Due.is("the price is more than one rent", withOffer(1, FLAT, 3, 0, 0, 4).known(1), 3);
    }

    // ---- 7 ratio

    private static void promise7Plan() {
        for (int e : new int[] {1, 20, 40}) {
            RentOrBuy x = withEnds(e);
            Due.limits("plan of a ratio, E " + e, 1, e + 1, plan -> x.ratio(plan, e, 0));
            Due.limits("plan of a worst, E " + e, 1, e + 1, plan -> x.ratio(plan, 0, 1));
        }
    }

    /** End 0 asks for the worst, so what is too small is -1. */
    private static void promise7End() {
        for (int e : new int[] {1, 20, 40}) {
            RentOrBuy x = withEnds(e);
            Due.limits("end of the first plan, E " + e, 0, e, end -> x.ratio(1, end, 0));
            Due.limits("end of the last plan, E " + e, 0, e, end -> x.ratio(e + 1, end, 1));
        }
    }

    private static void promise7Part() {
        RentOrBuy x = new RentOrBuy();
        Due.limits("part of a ratio", 0, 1, part -> x.ratio(10, 10, part));
        Due.limits("part of a worst", 0, 1, part -> x.ratio(10, 0, part));
    }

    private static void promise7WorstIsNoEnd() {
        RentOrBuy x = new RentOrBuy();
        dueRatio(x, 10, 0, 19, 10);
        dueRatio(x, 10, 1, 1, 1);
    }

    private static void promise7LeastForm() {
        RentOrBuy x = new RentOrBuy();
        dueRatio(x, 21, 10, 1, 1); // 10 by 10
        dueRatio(x, 21, 20, 2, 1); // 20 by 10
        dueRatio(x, 21, 15, 3, 2); // 15 by 10
        dueRatio(x, 10, 10, 19, 10);
        dueRatio(x, 1, 1, 10, 1);
        dueRatio(x, 1, 4, 5, 2); // 10 by 4
    }

    private static void promise7WorstOfTheLeastE() {
        RentOrBuy x = withEnds(1);
        dueRatio(x, 1, 0, 10, 1);
        dueRatio(x, 2, 0, 1, 1);
    }

    private static void promise7WorstByTheFirstEnd() {
        dueRatio(withEnds(40), 1, 0, 10, 1);
    }

    private static void promise7WorstByTheEndOnWhichItBuys() {
        RentOrBuy x = withEnds(40);
        dueRatio(x, 2, 0, 11, 2);
        dueRatio(x, 3, 0, 4, 1);
        dueRatio(x, 10, 0, 19, 10);
    }

    private static void promise7WorstByTheLastEnd() {
        RentOrBuy x = withEnds(40);
        dueRatio(x, 41, 0, 4, 1);
        dueRatio(x, 40, 0, 49, 10);
    }

    private static void promise7WorstLooksAtNoDayBehindE() {
        dueRatio(withEnds(10), 11, 0, 1, 1);
        dueRatio(withEnds(11), 12, 0, 11, 10);
    }

    private static void promise7GreatestRatios() {
        RentOrBuy x = withOffer(40, RISING, 50, 20, 0, 1);
        dueRatio(x, 41, 0, 17600, 1);
        dueRatio(x, 40, 0, 16771, 1);
        RentOrBuy dear = withOffer(40, RISING, 50, 20, 0, 499);
        dueRatio(dear, 40, 40, 39 * 50 + 20 * 741 + 499, 499);
    }

    // ---- 8 sure

    private static void promise8LeastE() {
        Due.is("the price is less", withOffer(1, FLAT, 3, 0, 0, 2).sure(), 1);
        Due.is("the price is as the rent: of several the least", withOffer(1, FLAT, 3, 0, 0, 3).sure(), 1);
        Due.is("the price is more", withOffer(1, FLAT, 3, 0, 0, 4).sure(), 2);
    }

    private static void promise8GreatestE() {
        Due.is("buys", withEnds(40).sure(), 10);
        Due.is("buys at once", withOffer(40, FLAT, 1, 0, 0, 1).sure(), 1);
        Due.is("buys on day 2", withOffer(40, FLAT, 1, 0, 0, 2).sure(), 2);
        Due.is("never", withOffer(40, FLAT, 1, 0, 0, 500).sure(), 41);
        Due.is("never, and the rents come to the price", withOffer(40, FLAT, 1, 0, 0, 40).sure(), 41);
    }

    /** Never costs E by 10 at worst, the best day 19 by 10. */
    private static void promise8OfSeveralTheLeast() {
        Due.is("never is better", withEnds(18).sure(), 19);
        Due.is("never is as good as day 10", withEnds(19).sure(), 10);
        Due.is("day 10 is better", withEnds(20).sure(), 10);
    }
}
