/** Promises 9 to 13: one test for each boundary that the document names, on both sides of it. */
public final class LotsEdgesTest {
    private static final int BAD = RentOrBuy.BAD, STATE = RentOrBuy.STATE;
    private static final int FLAT = 0, RISING = 1;
    private static final int PLANS = 0, ENDS = 1;

    private LotsEdgesTest() {
    }

    public static void main(String[] args) throws ReflectiveOperationException {
        Due.runPromises(LotsEdgesTest.class);
    }

    private static RentOrBuy withEnds(int e) {
        RentOrBuy x = new RentOrBuy();
        x.ends(e);
        return x;
    }

    private static RentOrBuy withFlat(int e, int rent, int price) {
        RentOrBuy x = withEnds(e);
        x.offer(FLAT, rent, 0, 0, price);
        return x;
    }

    private static void dueMean(RentOrBuy x, int end, long upper, long lower) {
        Due.is("mean(" + end + ", 0)", x.mean(end, 0), upper);
        Due.is("mean(" + end + ", 1)", x.mean(end, 1), lower);
    }

    private static void dueTrust(RentOrBuy x, int g, int t, int what, int upper, int lower) {
        Due.is("trust(" + g + ", " + t + ", " + what + ", 0)", x.trust(g, t, what, 0), upper);
        Due.is("trust(" + g + ", " + t + ", " + what + ", 1)", x.trust(g, t, what, 1), lower);
    }

    // ---- 9 share

    private static void promise9Of() {
        RentOrBuy x = new RentOrBuy();
        Due.limits("of", PLANS, ENDS, of -> x.share(of, 1, 1));
    }

    private static void promise9Plan() {
        for (int e : new int[] {1, 20, 40}) {
            RentOrBuy x = withEnds(e);
            Due.limits("plan of E " + e, 1, e + 1, plan -> x.share(PLANS, plan, 1));
        }
    }

    private static void promise9End() {
        for (int e : new int[] {1, 20, 40}) {
            RentOrBuy x = withEnds(e);
            Due.limits("end of E " + e, 1, e, end -> x.share(ENDS, end, 1));
        }
    }

    private static void promise9Value() {
        RentOrBuy x = new RentOrBuy();
        Due.limits("share of a plan", 0, 9, v -> x.share(PLANS, 21, v));
        Due.limits("share of an end", 0, 9, v -> x.share(ENDS, 20, v));
    }

    private static void promise9WhatItWas() {
        RentOrBuy x = new RentOrBuy();
        for (int of = PLANS; of <= ENDS; of++) {
            Due.is("at first", x.share(of, 1, 9), 0);
            Due.is("the greatest", x.share(of, 1, 9), 9);
            Due.is("the same again", x.share(of, 1, 0), 9);
            Due.is("the least", x.share(of, 1, 0), 0);
        }
    }

    private static void promise9EachIsApart() {
        RentOrBuy x = withEnds(40);
        for (int i = 1; i <= 41; i++) {
            x.share(PLANS, i, i % 10);
            x.share(ENDS, i, 9 - i % 10);
        }
        for (int plan = 1; plan <= 41; plan++) {
            Due.is("share of plan " + plan, x.share(PLANS, plan, 0), plan % 10);
        }
        for (int end = 1; end <= 40; end++) {
            Due.is("share of end " + end, x.share(ENDS, end, 0), 9 - end % 10);
        }
    }

    // ---- 10 mean

    private static void promise10End() {
        for (int e : new int[] {1, 20, 40}) {
            RentOrBuy x = withEnds(e);
            x.share(PLANS, 1, 1);
            Due.limits("end of E " + e, 1, e, end -> x.mean(end, 0));
        }
    }

    private static void promise10Part() {
        RentOrBuy x = new RentOrBuy();
        x.share(PLANS, 1, 1);
        Due.limits("part", 0, 1, part -> x.mean(20, part));
    }

    private static void promise10BadIsAheadOfState() {
        RentOrBuy x = new RentOrBuy();
        int[][] bad = {{0, 0}, {21, 0}, {1, -1}, {1, 2}, {0, 2}, {Integer.MIN_VALUE, Integer.MAX_VALUE}};
        for (int[] b : bad) {
            Due.is("mean(" + b[0] + ", " + b[1] + ")", x.mean(b[0], b[1]), BAD);
        }
        Due.is("all is as told but the shares", x.mean(1, 0), STATE);
        Due.is("all is as told but the shares", x.mean(20, 1), STATE);
    }

    private static void promise10OneShareOfTheFirstPlan() {
        RentOrBuy x = new RentOrBuy();
        x.share(PLANS, 1, 1);
        dueMean(x, 1, 10, 1);
        x.share(PLANS, 1, 0);
        Due.is("all shares are 0 again", x.mean(1, 0), STATE);
    }

    private static void promise10OneShareOfTheLastPlan() {
        RentOrBuy x = withEnds(40);
        x.share(PLANS, 41, 1);
        dueMean(x, 40, 4, 1);
        x.share(PLANS, 41, 0);
        Due.is("all shares are 0 again", x.mean(40, 1), STATE);
    }

    private static void promise10SharesOfEndsAreNone() {
        RentOrBuy x = new RentOrBuy();
        for (int end = 1; end <= 20; end++) {
            x.share(ENDS, end, 9);
        }
        Due.is("upper", x.mean(1, 0), STATE);
        Due.is("lower", x.mean(1, 1), STATE);
    }

    private static void promise10LeastForm() {
        RentOrBuy x = new RentOrBuy();
        x.share(PLANS, 21, 9);
        dueMean(x, 10, 1, 1); // 90 by 90
        dueMean(x, 15, 3, 2); // 135 by 90
        x.share(PLANS, 1, 8);
        dueMean(x, 1, 89, 17); // 80 + 9 by 17: nothing in common
    }

    private static void promise10LeastE() {
        RentOrBuy x = withEnds(1);
        x.share(PLANS, 1, 1);
        x.share(PLANS, 2, 9);
        dueMean(x, 1, 19, 10);
    }

    private static void promise10GreatestSum() {
        RentOrBuy x = withEnds(40);
        x.offer(RISING, 50, 20, 0, 1);
        for (int plan = 1; plan <= 41; plan++) {
            x.share(PLANS, plan, 9);
        }
        dueMean(x, 40, 236600 + 40 + 17600, 41);
        Due.is("upper bound", x.bound(0), 6200976);
    }

    // ---- 11 bound

    private static void promise11What() {
        RentOrBuy x = new RentOrBuy();
        x.share(PLANS, 1, 1);
        x.share(ENDS, 1, 1);
        Due.limits("what", 0, 1, x::bound);
    }

    private static void promise11BadIsAheadOfState() {
        RentOrBuy x = new RentOrBuy();
        for (int what : new int[] {-1, 2, Integer.MIN_VALUE, Integer.MAX_VALUE}) {
            Due.is("bound(" + what + ")", x.bound(what), BAD);
        }
        Due.is("bound(0)", x.bound(0), STATE);
        Due.is("bound(1)", x.bound(1), STATE);
    }

    /** The upper bound is of the shares of plans, so those of ends neither help nor lack. */
    private static void promise11UpperAsksForSharesOfPlans() {
        RentOrBuy x = new RentOrBuy();
        for (int end = 1; end <= 20; end++) {
            x.share(ENDS, end, 9);
        }
        Due.is("shares of ends alone", x.bound(0), STATE);
        RentOrBuy y = new RentOrBuy();
        y.share(PLANS, 10, 1);
        Due.is("shares of plans alone", y.bound(0), 1900);
        y.share(PLANS, 10, 0);
        Due.is("all shares are 0 again", y.bound(0), STATE);
    }

    private static void promise11LowerAsksForSharesOfEnds() {
        RentOrBuy x = new RentOrBuy();
        for (int plan = 1; plan <= 21; plan++) {
            x.share(PLANS, plan, 9);
        }
        Due.is("shares of plans alone", x.bound(1), STATE);
        RentOrBuy y = new RentOrBuy();
        y.share(ENDS, 20, 1);
        Due.is("shares of ends alone", y.bound(1), 1000);
        y.share(ENDS, 20, 0);
        Due.is("all shares are 0 again", y.bound(1), STATE);
    }

    private static void promise11OneShareIsEnough() {
        for (int e : new int[] {1, 40}) {
            RentOrBuy x = withEnds(e);
            x.share(PLANS, e + 1, 1);
            x.share(ENDS, e, 1);
            Due.is("upper bound by the last plan of " + e, x.bound(0), Math.max(1, e / 10) * 1000);
            Due.is("lower bound by the last end of " + e, x.bound(1), 1000);
            RentOrBuy y = withEnds(e);
            y.share(PLANS, 1, 1);
            y.share(ENDS, 1, 1);
            Due.is("upper bound by the first plan of " + e, y.bound(0), 10000);
            Due.is("lower bound by the first end of " + e, y.bound(1), 1000);
        }
    }

    /** Never costs 1000 by 500, 1248 by 499 (a trifle above 2501), 748 by 499 (a trifle below 1499). */
    private static void promise11UpperIsRoundedUp() {
        RentOrBuy whole = withFlat(20, 50, 500);
        whole.share(PLANS, 21, 1);
        Due.is("a whole thousandth stays", whole.bound(0), 2000);
        RentOrBuy above = withFlat(39, 32, 499);
        above.share(PLANS, 40, 1);
        Due.is("a trifle above", above.bound(0), 2502);
        RentOrBuy below = withFlat(17, 44, 499);
        below.share(PLANS, 18, 1);
        Due.is("a trifle below", below.bound(0), 1499);
    }

    private static void promise11UpperIsTheGreatestOfAllEnds() {
        RentOrBuy first = withEnds(40);
        first.share(PLANS, 1, 1);
        Due.is("the first end", first.bound(0), 10000);
        RentOrBuy last = withEnds(40);
        last.share(PLANS, 40, 1);
        Due.is("the last end", last.bound(0), 4900);
    }

    private static void promise11LowerIsRoundedDown() {
        // 8 by 5 once and 1 four times by plan 1; the other plans are above
        RentOrBuy whole = withFlat(2, 5, 8);
        whole.share(ENDS, 1, 1);
        whole.share(ENDS, 2, 4);
        Due.is("a whole thousandth stays", whole.bound(1), 1120);
        // 1 twice and 1.333333 once by plan 3
        RentOrBuy above = withFlat(2, 2, 3);
        above.share(ENDS, 1, 2);
        above.share(ENDS, 2, 1);
        Due.is("below a half of a thousandth", above.bound(1), 1111);
        // 1.5 once and 1 twice by plan 1
        above.share(ENDS, 1, 1);
        above.share(ENDS, 2, 2);
        Due.is("above a half of a thousandth", above.bound(1), 1166);
    }

    private static void promise11LowerRoundsRatiosAhead() {
        // 1 twice and 4/3 three times, by 5, were 1.2; but each 4/3 counts 1.333333
        RentOrBuy x = withFlat(2, 2, 3);
        x.share(ENDS, 1, 2);
        x.share(ENDS, 2, 3);
        Due.is("4/3 is not whole in millionths", x.bound(1), 1199);
        // 1.25 is: plan 3 costs 10 by 8
        RentOrBuy y = withFlat(2, 5, 8);
        y.share(ENDS, 1, 5);
        y.share(ENDS, 2, 4);
        Due.is("5/4 is whole in millionths", y.bound(1), 1111);
        y.share(ENDS, 1, 3);
        y.share(ENDS, 2, 2);
        Due.is("5/4 is whole in millionths", y.bound(1), 1100);
    }

    private static void promise11LowerIsTheLeastOfAllPlans() {
        RentOrBuy first = withEnds(40);
        first.share(ENDS, 40, 9);
        Due.is("the first plan", first.bound(1), 1000);
        RentOrBuy last = withFlat(40, 1, 40);
        last.share(ENDS, 40, 1);
        last.share(ENDS, 1, 1);
        Due.is("never", last.bound(1), 1000);
        RentOrBuy between = withFlat(40, 1, 10);
        between.share(ENDS, 1, 1);
        between.share(ENDS, 40, 1);
        Due.is("plan 2: 1 and 11 by 10", between.bound(1), 1050);
    }

    // ---- 12 guess

    private static void promise12Guess() {
        for (int e : new int[] {1, 20, 40}) {
            RentOrBuy x = withEnds(e);
            Due.limits("guess of E " + e, 1, e, g -> x.guess(g, 5));
        }
    }

    private static void promise12Trust() {
        RentOrBuy x = new RentOrBuy();
        Due.limits("trust by the first guess", 1, 9, t -> x.guess(1, t));
        Due.limits("trust by the last guess", 1, 9, t -> x.guess(20, t));
    }

    private static void promise12PriceBesideTheRents() {
        RentOrBuy x = new RentOrBuy();
        Due.is("the price is more", x.guess(9, 5), 20);
        Due.is("the price is as the rents", x.guess(10, 5), 20);
        Due.is("the price is less", x.guess(11, 5), 5);
    }

    private static void promise12RoundedUp() {
        RentOrBuy whole = new RentOrBuy();
        Due.is("10 times 1 by 10", whole.guess(20, 1), 1);
        Due.is("10 times 9 by 10", whole.guess(20, 9), 9);
        RentOrBuy x = withFlat(40, 1, 7);
        Due.is("7 times 1 by 10", x.guess(40, 1), 1);
        Due.is("7 times 2 by 10", x.guess(40, 2), 2);
        Due.is("7 times 3 by 10", x.guess(40, 3), 3);
        Due.is("7 times 9 by 10", x.guess(40, 9), 7);
    }

    private static void promise12RoundedDown() {
        RentOrBuy x = withFlat(40, 1, 7);
        Due.is("70 by 9", x.guess(7, 9), 7);
        Due.is("70 by 8", x.guess(7, 8), 8);
        Due.is("70 by 7", x.guess(7, 7), 10);
        Due.is("70 by 4", x.guess(7, 4), 17);
        Due.is("70 by 2", x.guess(7, 2), 35);
    }

    private static void promise12NeverAtMost() {
        Due.is("100 by 4 is E", withEnds(25).guess(1, 4), 25);
        Due.is("100 by 4 is E + 1", withEnds(24).guess(1, 4), 25);
        Due.is("100 by 4 is E + 2", withEnds(23).guess(1, 4), 24);
        Due.is("the least trust", withEnds(40).guess(1, 1), 41);
    }

    private static void promise12SureIsDay1() {
        RentOrBuy x = withFlat(40, 5, 5);
        Due.is("the price is as the rents, least trust", x.guess(1, 1), 10);
        Due.is("the price is as the rents, greatest trust", x.guess(1, 9), 1);
        Due.is("the price is less, least trust", x.guess(2, 1), 1);
        Due.is("the price is less, greatest trust", x.guess(40, 9), 1);
    }

    private static void promise12SureIsNever() {
        RentOrBuy x = withEnds(18);
        Due.is("never is sure", x.sure(), 19);
        Due.is("the price is as the rents, least trust", x.guess(10, 1), 19);
        Due.is("the price is as the rents, greatest trust", x.guess(10, 9), 19);
        Due.is("the price is less, least trust", x.guess(11, 1), 2);
        Due.is("the price is less, greatest trust", x.guess(18, 9), 18);
    }

    private static void promise12LeastE() {
        RentOrBuy x = withEnds(1);
        Due.is("never, least trust", x.guess(1, 1), 2);
        Due.is("never, greatest trust", x.guess(1, 9), 2);
        Due.is("no such guess", x.guess(2, 1), BAD);
    }

    // ---- 13 trust

    private static void promise13Guess() {
        for (int e : new int[] {1, 20, 40}) {
            RentOrBuy x = withEnds(e);
            Due.limits("guess of E " + e + ", right", 1, e, g -> x.trust(g, 5, 0, 0));
            Due.limits("guess of E " + e + ", wrong", 1, e, g -> x.trust(g, 5, 1, 1));
        }
    }

    private static void promise13Trust() {
        RentOrBuy x = new RentOrBuy();
        Due.limits("trust, right", 1, 9, t -> x.trust(20, t, 0, 1));
        Due.limits("trust, wrong", 1, 9, t -> x.trust(1, t, 1, 0));
    }

    private static void promise13What() {
        RentOrBuy x = new RentOrBuy();
        Due.limits("what", 0, 1, what -> x.trust(20, 5, what, 0));
    }

    private static void promise13Part() {
        RentOrBuy x = new RentOrBuy();
        Due.limits("part, right", 0, 1, part -> x.trust(20, 5, 0, part));
        Due.limits("part, wrong", 0, 1, part -> x.trust(20, 5, 1, part));
    }

    private static void promise13RightBesideThePrice() {
        RentOrBuy x = new RentOrBuy();
        dueTrust(x, 9, 5, 0, 1, 1); // plan 20 by 9
        dueTrust(x, 10, 5, 0, 1, 1); // plan 20 by 10
        dueTrust(x, 11, 5, 0, 7, 5); // plan 5: 14 by 10
    }

    /** Plan 20 is bought on the last end and costs 29; plan 21 is never bought. */
    private static void promise13WrongBesideNever() {
        RentOrBuy x = new RentOrBuy();
        dueTrust(x, 1, 5, 1, 29, 10);
        dueTrust(x, 1, 4, 1, 2, 1);
    }

    private static void promise13LeastAndGreatestTrust() {
        RentOrBuy x = new RentOrBuy();
        dueTrust(x, 20, 1, 0, 1, 1); // plan 1
        dueTrust(x, 20, 1, 1, 10, 1);
        dueTrust(x, 20, 9, 0, 9, 5); // plan 9: 18 by 10
        dueTrust(x, 20, 9, 1, 2, 1); // 18 by 9
    }

    private static void promise13LeastE() {
        RentOrBuy x = withEnds(1);
        dueTrust(x, 1, 1, 0, 1, 1);
        dueTrust(x, 1, 9, 1, 1, 1);
        Due.is("no such guess", x.trust(2, 1, 0, 0), BAD);
    }
}
