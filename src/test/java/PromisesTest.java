/** Promises 1 to 20, sentence by sentence; what their words mean is tested by TermsTest. */
public final class PromisesTest {
    private static final int BAD = RentOrBuy.BAD, STATE = RentOrBuy.STATE, FULL = RentOrBuy.FULL;
    private static final int FLAT = 0, RISING = 1, CAPPED = 2;
    private static final Told TOLD = new Told();

    private PromisesTest() {
    }

    public static void main(String[] args) throws ReflectiveOperationException {
        Due.runNamed(PromisesTest.class, "promise");
        TOLD.nothingIsLeft(1, Told.PROMISES);
        Due.finish();
    }

    /** A state in which every number that the document has differs from what it is at first. */
    private static RentOrBuy used() {
        RentOrBuy x = new RentOrBuy();
        x.ends(12);
        x.offer(CAPPED, 4, 3, 17, 60);
        x.share(0, 13, 8);
        x.share(0, 5, 3);
        x.share(1, 12, 7);
        x.share(1, 4, 2);
        x.rent(12);
        x.list(4);
        x.request(3);
        x.request(1);
        return x;
    }

    // ---- an offer

    private static void promise1() {
        TOLD.says(1, "As told.");
        RentOrBuy x = new RentOrBuy();
        int[] counts = {20, FLAT, 3, 0};
        for (int what = 0; what <= 3; what++) {
            Due.is("count(" + what + ")", x.count(what), counts[what]);
        }
        for (int day = 1; day <= 20; day++) {
            Due.is("known(" + day + ")", x.known(day), Math.min(day, 10));
        }
        for (int i = 1; i <= 21; i++) {
            Due.is("share of plan " + i, x.share(0, i, 0), 0);
            Due.is("share of end " + i, x.share(1, i, 0), i == 21 ? BAD : 0);
        }
        for (int place = 1; place <= 3; place++) {
            Due.is("at(" + place + ")", x.at(place), place - 1);
        }
        Due.is("trace()", x.trace(), 0);
        Due.is("drop()", x.drop(), STATE);
    }

    private static void promise2InPlaceOfTheOneBefore() {
        TOLD.says(2, "AN OFFER, in place of the one before: KNOWN by E.");
        for (Offering before : Offering.all()) {
            RentOrBuy x = new RentOrBuy();
            for (Offering o : Offering.all()) {
                if (o.e() != before.e()) continue;
                before.lead(x);
                int known = x.offer(o.kind(), o.rent(), o.rise(), o.cap(), o.price());
                Due.is(o + " behind " + before, known, x.known(o.e()));
                Due.is(o + " behind " + before, known, Math.min(o.price(), o.rentsUpTo(o.e())));
                Due.is(o + ": kind", x.count(1), o.kind());
                Due.is(o + ": price", x.cost(1, 1), o.price());
                Due.is(o + ": all rents", x.cost(o.e() + 1, o.e()), o.rentsUpTo(o.e()));
                Due.is(o + ": last rent", x.rent(40), o.rentOf(40));
            }
        }
    }

    private static void promise2WhatIsLookedAt() {
        TOLD.says(2, "(RISE but of FLAT, CAP but of CAPPED alone are looked at.)");
        int[] wrong = {-1, 201, Integer.MIN_VALUE, Integer.MAX_VALUE};
        for (int number : wrong) {
            RentOrBuy x = new RentOrBuy();
            Due.is("flat, rise and cap " + number, x.offer(FLAT, 1, number, number, 9), 9);
            Due.is("rising, rise " + number, x.offer(RISING, 1, number, 1, 8), BAD);
            Due.is("rising, cap " + number, x.offer(RISING, 1, 1, number, 8), 8);
            Due.is("its cap is none", x.rent(40), 40);
            Due.is("capped, rise " + number, x.offer(CAPPED, 1, number, 1, 7), BAD);
            Due.is("capped, cap " + number, x.offer(CAPPED, 1, 1, number, 7), BAD);
        }
    }

    private static void promise2Bad() {
        TOLD.says(2, "BAD.");
        RentOrBuy x = new RentOrBuy();
        Due.limits("kind", 0, 2, kind -> x.offer(kind, 1, 1, 1, 1));
        for (int kind = FLAT; kind <= CAPPED; kind++) {
            int k = kind;
            Due.limits("rent", 1, 50, rent -> x.offer(k, rent, 1, 1, 1));
            Due.limits("price", 1, 500, price -> x.offer(k, 1, 1, 1, price));
        }
        Due.limits("rise of rising", 0, 20, rise -> x.offer(RISING, 1, rise, 1, 1));
        Due.limits("rise of capped", 0, 20, rise -> x.offer(CAPPED, 1, rise, 1, 1));
        Due.limits("cap of capped", 1, 200, cap -> x.offer(CAPPED, 1, 1, cap, 1));
    }

    private static void promise3EBecomesE() {
        TOLD.says(3, "E becomes e; all SHARES are 0: what it was.");
        RentOrBuy all = new RentOrBuy();
        all.ends(40);
        for (int i = 1; i <= 41; i++) {
            all.share(0, i, 9);
            all.share(1, i, 9);
        }
        all.ends(40);
        for (int i = 1; i <= 41; i++) {
            Due.is("share of plan " + i, all.share(0, i, 0), 0);
            Due.is("share of end " + i, all.share(1, i, 0), i <= 40 ? 0 : BAD);
        }
        for (int e = 1; e <= 40; e++) {
            RentOrBuy x = used();
            Due.is("what it was", x.ends(e), 12);
            Due.is("E", x.count(0), e);
            for (int i = 1; i <= e + 1; i++) {
                Due.is("share of plan " + i, x.share(0, i, 0), 0);
                Due.is("share of end " + i, x.share(1, i, 0), i <= e ? 0 : BAD);
            }
            Due.is("what it was", x.ends(12), e);
            Due.is("no share comes back", x.bound(0), STATE);
            Due.is("no share comes back", x.bound(1), STATE);
        }
    }

    private static void promise3Bad() {
        TOLD.says(3, "BAD.");
        Due.limits("e", 1, 40, used()::ends);
    }

    private static void promise4() {
        TOLD.says(4, "RENT of a DAY 1 .. 40. BAD.");
        for (int e : new int[] {1, 20, 40}) {
            RentOrBuy x = used();
            x.ends(e);
            Due.limits("day", 1, 40, x::rent);
            for (int day = 1; day <= 40; day++) {
                Due.is("rent(" + day + ")", x.rent(day), Math.min(4 + 3 * (day - 1), 17));
            }
        }
    }

    private static void promise5() {
        TOLD.says(5, "COST of a PLAN by an END. BAD.");
        RentOrBuy x = used(); // 4 7 10 13 16 17 17 ..
        Due.is("cost(1, 12)", x.cost(1, 12), 60);
        Due.is("cost(4, 4)", x.cost(4, 4), 4 + 7 + 10 + 60);
        Due.is("cost(5, 4)", x.cost(5, 4), 4 + 7 + 10 + 13);
        Due.is("cost(13, 12)", x.cost(13, 12), 50 + 7 * 17);
        Due.limits("plan", 1, 13, plan -> x.cost(plan, 12));
        Due.limits("end", 1, 12, end -> x.cost(13, end));
    }

    private static void promise6() {
        TOLD.says(6, "KNOWN by an END. BAD.");
        RentOrBuy x = used();
        Due.is("known(1)", x.known(1), 4);
        Due.is("known(5)", x.known(5), 50);
        Due.is("known(6)", x.known(6), 60);
        Due.is("known(12)", x.known(12), 60);
        Due.limits("end", 1, 12, x::known);
    }

    private static void promise7() {
        TOLD.says(7, "RATIO (end 1 .. E), WORST (end 0) of a PLAN: UPPER (part = 0), LOWER (1), in least form. BAD.");
        RentOrBuy x = used();
        Due.is("81 by 34: upper", x.ratio(4, 4, 0), 81);
        Due.is("81 by 34: lower", x.ratio(4, 4, 1), 34);
        Due.is("94 by 50: upper", x.ratio(5, 5, 0), 47);
        Due.is("94 by 50: lower", x.ratio(5, 5, 1), 25);
        Due.is("worst is by the end 4: upper", x.ratio(4, 0, 0), 81);
        Due.is("worst is by the end 4: lower", x.ratio(4, 0, 1), 34);
        Due.is("worst of day 1 is by the end 1: upper", x.ratio(1, 0, 0), 15);
        Due.is("worst of day 1 is by the end 1: lower", x.ratio(1, 0, 1), 1);
        Due.limits("plan", 1, 13, plan -> x.ratio(plan, 0, 0));
        Due.limits("end", 0, 12, end -> x.ratio(13, end, 1));
        Due.limits("part", 0, 1, part -> x.ratio(1, 1, part));
        Due.limits("part of worst", 0, 1, part -> x.ratio(1, 0, part));
    }

    /** Worst: day 5 94 by 50, day 6 110 by 60, each later day more, never 169 by 60. */
    private static void promise8() {
        TOLD.says(8, "SURE.");
        RentOrBuy x = used();
        Due.is("sure()", x.sure(), 6);
        x.offer(FLAT, 50, 0, 0, 50);
        Due.is("of several the least", x.sure(), 1);
        x.offer(FLAT, 1, 0, 0, 500);
        Due.is("never", x.sure(), 13);
    }

    // ---- lots, guesses

    private static void promise9() {
        TOLD.says(9, "SHARE of a PLAN (of = 0), of an END (1), becomes v: what it was. BAD.");
        RentOrBuy x = used();
        Due.is("plan 13", x.share(0, 13, 1), 8);
        Due.is("plan 13", x.share(0, 13, 8), 1);
        Due.is("end 12", x.share(1, 12, 1), 7);
        Due.is("end 12", x.share(1, 12, 7), 1);
        Due.is("plan 12 is no end", x.share(0, 12, 0), 0);
        Due.limits("of", 0, 1, of -> x.share(of, 1, 0));
        Due.limits("plan", 1, 13, plan -> x.share(0, plan, 0));
        Due.limits("end", 1, 12, end -> x.share(1, end, 0));
        Due.limits("v of a plan", 0, 9, v -> x.share(0, 13, v));
        Due.limits("v of an end", 0, 9, v -> x.share(1, 12, v));
    }

    private static void promise10Mean() {
        TOLD.says(10, "MEAN by an END: UPPER, LOWER, in least form.");
        RentOrBuy x = used(); // plan 5 has 3, plan 13 has 8
        Due.is("3 * 34 + 8 * 34 by 11 * 34: upper", x.mean(4, 0), 1);
        Due.is("3 * 34 + 8 * 34 by 11 * 34: lower", x.mean(4, 1), 1);
        Due.is("3 * 94 + 8 * 169 by 11 * 60: upper", x.mean(12, 0), 817);
        Due.is("3 * 94 + 8 * 169 by 11 * 60: lower", x.mean(12, 1), 330);
    }

    private static void promise10Refused() {
        TOLD.says(10, "-1: BAD; -2: STATE: all SHARES of PLANS are 0.");
        Due.limits("end", 1, 12, end -> used().mean(end, 0));
        Due.limits("part", 0, 1, part -> used().mean(12, part));
        RentOrBuy x = used();
        x.share(0, 13, 0);
        Due.is("one share is left", x.mean(4, 0), 1);
        x.share(0, 5, 0);
        Due.is("all shares of plans are 0", x.mean(4, 0), -2);
        Due.is("all shares of plans are 0", x.mean(12, 1), -2);
        Due.is("BAD is the first", x.mean(13, 0), -1);
        Due.is("BAD is the first", x.mean(12, 2), -1);
    }

    private static void promise11Bounds() {
        TOLD.says(11, "UPPER BOUND (what = 0), LOWER BOUND (1), as thousandths, the first rounded up, the second "
                + "rounded down: each RATIO of the second is rounded down to millionths ahead.");
        RentOrBuy x = used();
        Due.is("817 by 330 is 2.47575..", x.bound(0), 2476);
        // the end 12 has 7, the end 4 has 2: day 1: (7 + 2 * 60/34) / 9; day 2: (7 * 64/60 + 2 * 64/34) / 9
        Due.is("day 1 is best: 1.16993..", x.bound(1), 1169);
        RentOrBuy ahead = new RentOrBuy();
        ahead.offer(FLAT, 2, 0, 0, 3);
        ahead.ends(2);
        ahead.share(1, 1, 2);
        ahead.share(1, 2, 3);
        Due.is("1.2, but 4 by 3 is rounded down to 1.333333 ahead", ahead.bound(1), 1199);
    }

    private static void promise11Refused() {
        TOLD.says(11, "BAD; STATE: all SHARES of PLANS, of ENDS are 0.");
        Due.limits("what", 0, 1, used()::bound);
        RentOrBuy plans = new RentOrBuy();
        Due.is("no shares", plans.bound(0), STATE);
        Due.is("no shares", plans.bound(1), STATE);
        plans.share(0, 10, 1);
        Due.is("a share of a plan", plans.bound(0), 1900);
        Due.is("no share of an end", plans.bound(1), STATE);
        RentOrBuy ends = new RentOrBuy();
        ends.share(1, 10, 1);
        Due.is("no share of a plan", ends.bound(0), STATE);
        Due.is("a share of an end", ends.bound(1), 1000);
        Due.is("BAD is the first", new RentOrBuy().bound(-1), BAD);
        Due.is("BAD is the first", new RentOrBuy().bound(2), BAD);
    }

    private static void promise12() {
        TOLD.says(12, "THE PLAN by a GUESS and a TRUST. BAD.");
        RentOrBuy x = used(); // sure is 6; the price 60 is less than the rents from day 6 on
        Due.is("10 * 6 / 5", x.guess(5, 5), 12);
        Due.is("10 * 6 / 7, rounded down", x.guess(5, 7), 8);
        Due.is("10 * 6 / 4, never at most", x.guess(5, 4), 13);
        Due.is("5 * 6 / 10", x.guess(6, 5), 3);
        Due.is("7 * 6 / 10, rounded up", x.guess(6, 7), 5);
        Due.is("1 * 6 / 10, rounded up", x.guess(12, 1), 1);
        Due.limits("g", 1, 12, g -> x.guess(g, 5));
        Due.limits("t", 1, 9, t -> x.guess(12, t));
    }

    private static void promise13() {
        TOLD.says(13, "RIGHT (what = 0), WRONG (1) of that PLAN: UPPER, LOWER, in least form. BAD.");
        RentOrBuy x = used();
        Due.is("plan 3, right: 71 by 60: upper", x.trust(6, 5, 0, 0), 71);
        Due.is("plan 3, right: 71 by 60: lower", x.trust(6, 5, 0, 1), 60);
        Due.is("plan 3, wrong: 71 by 21: upper", x.trust(6, 5, 1, 0), 71);
        Due.is("plan 3, wrong: 71 by 21: lower", x.trust(6, 5, 1, 1), 21);
        Due.is("never, right: upper", x.trust(5, 4, 0, 0), 1);
        Due.is("never, right: lower", x.trust(5, 4, 0, 1), 1);
        Due.is("never, wrong: 169 by 60: upper", x.trust(5, 4, 1, 0), 169);
        Due.is("never, wrong: 169 by 60: lower", x.trust(5, 4, 1, 1), 60);
        Due.limits("g", 1, 12, g -> x.trust(g, 5, 0, 0));
        Due.limits("t", 1, 9, t -> x.trust(12, t, 0, 0));
        Due.limits("what", 0, 1, what -> x.trust(12, 5, what, 0));
        Due.limits("part", 0, 1, part -> x.trust(12, 5, 1, part));
    }

    // ---- a list

    private static void promise14() {
        TOLD.says(14, "THE LIST has n THINGS, no REQUESTS: how many it had. BAD.");
        for (int n = 1; n <= 4; n++) {
            RentOrBuy x = used();
            Due.is("how many it had", x.list(n), 4);
            Due.is("things", x.count(2), n);
            Due.is("requests", x.count(3), 0);
            Due.is("the order is the first again", x.at(1), 0);
            Due.is("how many it had", x.list(4), n);
        }
        Due.limits("n", 1, 4, used()::list);
    }

    private static void promise15() {
        TOLD.says(15, "A REQUEST: how many there are. BAD; FULL.");
        RentOrBuy x = used();
        for (int there = 3; there <= 16; there++) {
            Due.is("how many there are", x.request(there % 4), there);
        }
        Due.is("the 17th", x.request(0), FULL);
        Due.is("BAD is the first", x.request(4), BAD);
        Due.is("BAD is the first", x.request(-1), BAD);
        Due.limits("thing", 0, 3, used()::request);
    }

    private static void promise16() {
        TOLD.says(16, "The latest REQUEST is gone: how many are left. STATE: there is none.");
        RentOrBuy x = used();
        Due.is("how many are left", x.drop(), 1);
        Due.is("the latest is gone", x.at(1), 3);
        Due.is("the first costs 4", x.serve(0), 4);
        Due.is("how many are left", x.drop(), 0);
        Due.is("there is none", x.drop(), STATE);
    }

    private static void promise17() {
        TOLD.says(17, "What all REQUESTS cost: FRONT (what = 0), STAYS (1), the best list that stays, of all orders (2), "
                + "BEST (3). BAD.");
        String[] orders = {
            "0123", "0132", "0213", "0231", "0312", "0321", "1023", "1032", "1203", "1230", "1302", "1320",
            "2013", "2031", "2103", "2130", "2301", "2310", "3012", "3021", "3102", "3120", "3201", "3210",
        };
        for (Requests requests : Requests.many()) {
            RentOrBuy x = new RentOrBuy();
            requests.lead(x);
            int least = Integer.MAX_VALUE;
            for (String order : orders) {
                // An order of four things in which those that are not in the list stand last is one of the list.
                if (order.startsWith(order.replaceAll("[" + requests.n() + "-9]", ""))) {
                    least = Math.min(least, requests.stays(order));
                }
            }
            Due.is(requests + ": serve(0)", x.serve(0), requests.front(requests.inOrder()));
            Due.is(requests + ": serve(1)", x.serve(1), requests.stays(requests.inOrder()));
            Due.is(requests + ": serve(2)", x.serve(2), least);
            Due.is(requests + ": serve(3)", x.serve(3), requests.best());
        }
        Due.limits("what", 0, 3, used()::serve);
    }

    private static void promise18() {
        TOLD.says(18, "The THING at place i (from 1 on) of FRONT's list behind all REQUESTS. BAD.");
        for (Requests requests : Requests.many()) {
            RentOrBuy x = new RentOrBuy();
            requests.lead(x);
            String order = requests.frontOrder();
            for (int place = 1; place <= requests.n(); place++) {
                Due.is(requests + ": at(" + place + ")", x.at(place), order.charAt(place - 1) - '0');
            }
            Due.is(requests + ": at(0)", x.at(0), BAD);
            Due.is(requests + ": behind the last place", x.at(requests.n() + 1), BAD);
        }
    }

    private static void promise19() {
        TOLD.says(19, "0 E, 1 KIND of AN OFFER, 2 THINGS, 3 REQUESTS. BAD.");
        RentOrBuy x = used();
        int[] due = {12, CAPPED, 4, 2};
        for (int what = 0; what <= 3; what++) {
            Due.is("count(" + what + ")", x.count(what), due[what]);
        }
        Due.limits("what", 0, 3, x::count);
    }

    private static void promise20() {
        TOLD.says(20, "THE TRACE.");
        RentOrBuy x = used();
        Due.is("one rent of capped", x.trace(), 111);
        x.offer(RISING, 1, 1, 1, 1);
        x.rent(40);
        Due.is("one of rising more", x.trace(), 111 + 11);
        x.offer(FLAT, 1, 1, 1, 1);
        x.rent(1);
        x.rent(41);
        Due.is("one of flat more, and none for what is refused", x.trace(), 111 + 11 + 1);
    }
}
