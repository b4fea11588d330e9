/** Promises 1 to 8: a new object, offer, ends, rent, cost, known, ratio, sure. */
public final class OfferTest {
    private OfferTest() {
    }

    public static void main(String[] args) {
        newObject();
        offers();
        refusedOffers();
        ends();
        rents();
        costs();
        known();
        ratios();
        sure();
        Due.finish();
    }

    private static void newObject() {
        RentOrBuy x = new RentOrBuy();
        Due.is("new: E", x.count(0), 20);
        Due.is("new: kind", x.count(1), 0);
        Due.is("new: things", x.count(2), 3);
        Due.is("new: requests", x.count(3), 0);
        Due.is("new: trace", x.trace(), 0);
        Due.is("new: rent", x.rent(40), 1);
        Due.is("new: price", x.cost(1, 1), 10);
        Due.is("new: shares of plans", x.bound(0), RentOrBuy.STATE);
        Due.is("new: shares of ends", x.bound(1), RentOrBuy.STATE);
        for (int i = 1; i <= 3; i++) {
            Due.is("new: at", x.at(i), i - 1);
        }
        Due.is("BAD", RentOrBuy.BAD, -1);
        Due.is("STATE", RentOrBuy.STATE, -2);
        Due.is("FULL", RentOrBuy.FULL, -3);
        Due.is("NONE", RentOrBuy.NONE, -9);
    }

    private static void offers() {
        RentOrBuy x = new RentOrBuy();
        Due.is("flat, price is least", x.offer(0, 3, 0, 0, 50), 50);
        Due.is("flat, rents are least", x.offer(0, 2, 0, 0, 41), 40);
        Due.is("flat looks at no rise and cap", x.offer(0, 1, Integer.MIN_VALUE, Integer.MAX_VALUE, 500), 20);
        Due.is("rising", x.offer(1, 1, 1, 0, 500), 210);
        Due.is("rising looks at no cap", x.offer(1, 1, 0, 201, 500), 20);
        Due.is("kind", x.count(1), 1);
        Due.is("capped", x.offer(2, 1, 1, 3, 500), 57);
        Due.is("kind", x.count(1), 2);
        Due.is("edges, least", x.offer(2, 1, 0, 1, 1), 1);
        Due.is("edges, greatest", x.offer(2, 50, 20, 200, 500), 500);
        Due.is("shares stay", x.share(0, 3, 4) + x.offer(0, 1, 0, 0, 10), 10);
        Due.is("shares stay", x.share(0, 3, 4), 4);
        Due.is("E stays", x.count(0), 20);
    }

    private static void refusedOffers() {
        RentOrBuy x = new RentOrBuy();
        int[][] bad = {
            {-1, 1, 1, 1, 1}, {3, 1, 1, 1, 1},
            {0, 0, 1, 1, 1}, {0, 51, 1, 1, 1}, {2, 0, 1, 1, 1},
            {1, 1, -1, 1, 1}, {1, 1, 21, 1, 1}, {2, 1, -1, 1, 1}, {2, 1, 21, 1, 1},
            {2, 1, 1, 0, 1}, {2, 1, 1, 201, 1},
            {0, 1, 1, 1, 0}, {0, 1, 1, 1, 501}, {1, 1, 1, 1, 0}, {2, 1, 1, 1, 501},
        };
        x.offer(1, 2, 3, 0, 77);
        for (int[] b : bad) {
            Due.is("bad offer", x.offer(b[0], b[1], b[2], b[3], b[4]), RentOrBuy.BAD);
        }
        Due.is("the offer stays", x.count(1), 1);
        Due.is("the offer stays", x.rent(3), 8);
        Due.is("the offer stays", x.cost(1, 1), 77);
    }

    private static void ends() {
        RentOrBuy x = new RentOrBuy();
        x.share(0, 1, 5);
        x.share(1, 20, 6);
        Due.is("ends(0)", x.ends(0), RentOrBuy.BAD);
        Due.is("ends(41)", x.ends(41), RentOrBuy.BAD);
        Due.is("ends(-1)", x.ends(-1), RentOrBuy.BAD);
        Due.is("a refused call changes no share", x.share(0, 1, 5), 5);
        Due.is("a refused call changes no end", x.count(0), 20);
        Due.is("ends(40)", x.ends(40), 20);
        Due.is("all shares are 0", x.share(0, 1, 0), 0);
        Due.is("all shares are 0", x.share(1, 20, 0), 0);
        x.share(0, 41, 9);
        x.share(1, 40, 9);
        Due.is("ends(1)", x.ends(1), 40);
        Due.is("all shares are 0", x.bound(0), RentOrBuy.STATE);
        Due.is("all shares are 0", x.bound(1), RentOrBuy.STATE);
        Due.is("ends(40)", x.ends(40), 1);
        Due.is("all shares are 0", x.share(0, 41, 0), 0);
        Due.is("all shares are 0", x.share(1, 40, 0), 0);
    }

    private static void rents() {
        RentOrBuy x = new RentOrBuy();
        Due.is("rent(0)", x.rent(0), RentOrBuy.BAD);
        Due.is("rent(41)", x.rent(41), RentOrBuy.BAD);
        x.ends(1);
        Due.is("days go on behind E", x.rent(40), 1);
        x.offer(1, 50, 20, 0, 500);
        Due.is("rising, first day", x.rent(1), 50);
        Due.is("rising, last day", x.rent(40), 50 + 39 * 20);
        x.offer(2, 50, 20, 200, 500);
        Due.is("capped, below", x.rent(8), 190);
        Due.is("capped, above", x.rent(9), 200);
        x.offer(2, 50, 20, 3, 500);
        Due.is("capped from the first day on", x.rent(1), 3);
    }

    private static void costs() {
        RentOrBuy x = new RentOrBuy();
        x.offer(1, 2, 3, 0, 40); // 2 5 8 11 14 ..
        Due.is("buys at once", x.cost(1, 20), 40);
        Due.is("buys on the last day", x.cost(4, 4), 55);
        Due.is("buys ahead of the end", x.cost(4, 20), 55);
        Due.is("the end is ahead", x.cost(4, 3), 15);
        Due.is("never", x.cost(21, 20), 40 + 3 * 190);
        Due.is("the last day of a new object", costOfNever(new RentOrBuy()), 40);
        Due.is("the last day of an offer", costOfNever(x), 80 + 3 * 780);
        x.ends(20);
        int[][] bad = {{0, 1}, {22, 1}, {-1, 1}, {1, 0}, {1, 21}, {1, -1}};
        for (int[] b : bad) {
            Due.is("bad cost", x.cost(b[0], b[1]), RentOrBuy.BAD);
        }
    }

    private static int costOfNever(RentOrBuy x) {
        x.ends(40);
        return x.cost(41, 40);
    }

    private static void known() {
        RentOrBuy x = new RentOrBuy();
        for (int end = 1; end <= 20; end++) {
            int least = Integer.MAX_VALUE;
            for (int plan = 1; plan <= 21; plan++) {
                least = Math.min(least, x.cost(plan, end));
            }
            Due.is("known by " + end, x.known(end), least);
            Due.is("known by " + end, x.known(end), Math.min(end, 10));
        }
        Due.is("known(0)", x.known(0), RentOrBuy.BAD);
        Due.is("known(21)", x.known(21), RentOrBuy.BAD);
    }

    private static void ratios() {
        RentOrBuy x = new RentOrBuy();
        Due.is("ratio(5, 20, 0)", x.ratio(5, 20, 0), 7);
        Due.is("ratio(5, 20, 1)", x.ratio(5, 20, 1), 5);
        Due.is("worst of 5, upper", x.ratio(5, 0, 0), 14);
        Due.is("worst of 5, lower", x.ratio(5, 0, 1), 5);
        int[][] bad = {{0, 1, 0}, {22, 1, 0}, {1, -1, 0}, {1, 21, 0}, {1, 1, -1}, {1, 1, 2}, {0, 0, 0}, {1, 0, 2}};
        for (int[] b : bad) {
            Due.is("bad ratio", x.ratio(b[0], b[1], b[2]), RentOrBuy.BAD);
        }
        x.ends(5);
        Due.is("worst looks at no day behind E", x.ratio(6, 0, 0), 1);
        Due.is("ratio(7, 0, 0)", x.ratio(7, 0, 0), RentOrBuy.BAD);
    }

    private static void sure() {
        RentOrBuy x = new RentOrBuy();
        Due.is("sure at first", x.sure(), 10);
        x.ends(9);
        Due.is("never is sure where rents stay below the price", x.sure(), 10);
        x.ends(10);
        Due.is("of several the least: day 11 is never", x.sure(), 11);
        x.offer(0, 5, 0, 0, 5);
        Due.is("of several the least", x.sure(), 1);
        x.offer(0, 2, 0, 0, 4);
        x.ends(2);
        Due.is("never is as sure as can be", x.sure(), 3);
        x.ends(3);
        // worst: plan 1 4/2, plan 2 6/4, plan 3 8/4, plan 4 6/4
        Due.is("of several the least", x.sure(), 2);
    }
}
