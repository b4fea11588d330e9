/** Promises 9 to 13: share, mean, bound, guess, trust. */
public final class LotsTest {
    private LotsTest() {
    }

    public static void main(String[] args) {
        shares();
        means();
        upperBound();
        lowerBound();
        guesses();
        trusts();
        Due.finish();
    }

    private static void shares() {
        RentOrBuy x = new RentOrBuy();
        Due.is("share of a plan", x.share(0, 21, 9), 0);
        Due.is("share of an end", x.share(1, 20, 8), 0);
        Due.is("plans and ends are apart", x.share(0, 20, 1), 0);
        int[][] bad = {
            {-1, 1, 1}, {2, 1, 1}, {0, 0, 1}, {0, 22, 1}, {1, 0, 1}, {1, 21, 1},
            {0, 21, -1}, {0, 21, 10}, {1, 20, -1}, {1, 20, 10},
        };
        for (int[] b : bad) {
            Due.is("bad share", x.share(b[0], b[1], b[2]), RentOrBuy.BAD);
        }
        Due.is("what it was", x.share(0, 21, 0), 9);
        Due.is("what it was", x.share(1, 20, 0), 8);
        Due.is("what it was", x.share(0, 21, 0), 0);
    }

    private static void means() {
        RentOrBuy x = new RentOrBuy();
        Due.is("no share", x.mean(1, 0), RentOrBuy.STATE);
        Due.is("BAD is ahead of STATE", x.mean(0, 0), RentOrBuy.BAD);
        Due.is("BAD is ahead of STATE", x.mean(21, 0), RentOrBuy.BAD);
        Due.is("BAD is ahead of STATE", x.mean(1, 2), RentOrBuy.BAD);
        Due.is("BAD is ahead of STATE", x.mean(1, -1), RentOrBuy.BAD);
        x.share(1, 1, 9);
        Due.is("shares of ends are no shares of plans", x.mean(1, 0), RentOrBuy.STATE);
        x.share(0, 1, 1);
        x.share(0, 21, 2);
        // by 3: (10 + 2 * 3) / (3 * 3)
        Due.is("mean(3, 0)", x.mean(3, 0), 16);
        Due.is("mean(3, 1)", x.mean(3, 1), 9);
        // by 20: (10 + 2 * 20) / (10 * 3)
        Due.is("mean(20, 0)", x.mean(20, 0), 5);
        Due.is("mean(20, 1)", x.mean(20, 1), 3);
        x.share(0, 1, 0);
        x.share(0, 21, 0);
        Due.is("no share again", x.mean(1, 1), RentOrBuy.STATE);
    }

    private static void upperBound() {
        RentOrBuy x = new RentOrBuy();
        Due.is("bound(-1)", x.bound(-1), RentOrBuy.BAD);
        Due.is("bound(2)", x.bound(2), RentOrBuy.BAD);
        x.share(1, 1, 1);
        Due.is("no share of a plan", x.bound(0), RentOrBuy.STATE);
        x.share(0, 1, 1);
        x.share(0, 21, 2);
        // greatest by 1: (10 + 2) / 3
        Due.is("a whole bound", x.bound(0), 4000);
        x.share(0, 1, 2);
        x.share(0, 21, 1);
        Due.is("a whole bound", x.bound(0), 7000);
        x.share(0, 1, 0);
        x.share(0, 21, 0);
        x.share(0, 7, 1);
        // greatest by 7: 16 / 7 = 2.28571..
        Due.is("rounded up", x.bound(0), 2286);
        x.ends(40);
        x.share(0, 41, 2);
        Due.is("the last end is the greatest", x.bound(0), 4000);
        Due.is("never has its share in the mean", x.mean(40, 0), 4);
    }

    private static void lowerBound() {
        RentOrBuy x = new RentOrBuy();
        x.share(0, 1, 1);
        Due.is("no share of an end", x.bound(1), RentOrBuy.STATE);
        x.share(0, 1, 0);
        x.share(1, 20, 3);
        Due.is("one end alone is known", x.bound(1), 1000);
        x.share(1, 1, 1);
        x.share(1, 20, 1);
        // plan 2: (1 + 11/10) / 2
        Due.is("two ends", x.bound(1), 1050);
        x.ends(40);
        x.offer(0, 1, 0, 0, 3);
        for (int end = 1; end <= 4; end++) {
            x.share(1, end, 1);
        }
        // plan 5 and later ones: (1 + 1 + 1 + 1.333333) / 4 = 1.08333325
        Due.is("rounded down", x.bound(1), 1083);
        x.offer(0, 2, 0, 0, 3);
        x.ends(2);
        x.share(1, 1, 2);
        x.share(1, 2, 1);
        // plan 1: (2 * 1.5 + 1) / 3 = 4/3; plan 3: (2 + 1.333333) / 3 = 1.111111
        Due.is("rounded down", x.bound(1), 1111);
        x.share(1, 1, 0);
        // the ratio 1 by the end 2 of plan 1
        Due.is("the least of all plans", x.bound(1), 1000);
        millionths();
    }

    private static void millionths() {
        RentOrBuy x = new RentOrBuy();
        x.offer(0, 2, 0, 0, 3);
        x.ends(2);
        x.share(1, 1, 2);
        x.share(1, 2, 3);
        // plan 3: (2 + 3 * 4/3) / 5 is 1.2, but 4/3 is rounded down to 1.333333 ahead
        Due.is("ratios are rounded ahead", x.bound(1), 1199);
        x.offer(0, 3, 0, 0, 4);
        x.share(1, 1, 3);
        x.share(1, 2, 2);
        // plan 1: (3 * 4/3 + 2) / 5
        Due.is("ratios are rounded ahead", x.bound(1), 1199);
    }

    private static void guesses() {
        RentOrBuy x = new RentOrBuy();
        // sure is 10; the price 10 is less than the rents from end 11 on
        Due.is("the price is as the rents", x.guess(10, 7), 14);
        Due.is("the price is less", x.guess(11, 7), 7);
        Due.is("E + 1 at most", x.guess(1, 4), 21);
        Due.is("E is not cut", x.guess(10, 5), 20);
        int[][] bad = {{0, 1}, {21, 1}, {1, 0}, {1, 10}, {-1, 5}, {5, -1}};
        for (int[] b : bad) {
            Due.is("bad guess", x.guess(b[0], b[1]), RentOrBuy.BAD);
            Due.is("bad trust", x.trust(b[0], b[1], 0, 0), RentOrBuy.BAD);
        }
        x.ends(40);
        x.offer(0, 1, 0, 0, 7);
        Due.is("sure", x.sure(), 7);
        Due.is("rounded up", x.guess(8, 5), 4);
        Due.is("rounded up", x.guess(8, 1), 1);
        Due.is("rounded down", x.guess(7, 8), 8);
        Due.is("rounded down", x.guess(7, 3), 23);
        Due.is("the least trust", x.guess(7, 1), 41);
        Due.is("the greatest trust", x.guess(8, 9), 7);
    }

    private static void trusts() {
        RentOrBuy x = new RentOrBuy();
        // plan 4 by a guess of 12: right (3 + 10) / 10, worst by 4: 13 / 4
        Due.is("guess", x.guess(12, 4), 4);
        Due.is("right, upper", x.trust(12, 4, 0, 0), 13);
        Due.is("right, lower", x.trust(12, 4, 0, 1), 10);
        Due.is("wrong, upper", x.trust(12, 4, 1, 0), 13);
        Due.is("wrong, lower", x.trust(12, 4, 1, 1), 4);
        // plan 20 by a guess of 5: right 1, worst by 20: 29 / 10
        Due.is("right, upper", x.trust(5, 5, 0, 0), 1);
        Due.is("right, lower", x.trust(5, 5, 0, 1), 1);
        Due.is("wrong, upper", x.trust(5, 5, 1, 0), 29);
        Due.is("wrong, lower", x.trust(5, 5, 1, 1), 10);
        // plan 21, never: worst by 20; plan 9: worst by 9: 18 / 9
        Due.is("the least trust", x.trust(20, 1, 0, 0), 1);
        Due.is("the least trust", x.trust(5, 1, 1, 0), 2);
        Due.is("the greatest trust", x.trust(20, 9, 1, 0), 2);
        Due.is("the greatest trust", x.trust(20, 9, 0, 1), 5);
        Due.is("bad what", x.trust(5, 5, 2, 0), RentOrBuy.BAD);
        Due.is("bad what", x.trust(5, 5, -1, 0), RentOrBuy.BAD);
        Due.is("bad part", x.trust(5, 5, 0, 2), RentOrBuy.BAD);
        Due.is("bad part", x.trust(5, 5, 0, -1), RentOrBuy.BAD);
    }
}
