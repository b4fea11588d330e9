/** Promises 14 to 20: one test for each boundary that the document names, on both sides of it. */
public final class ListEdgesTest {
    private static final int BAD = RentOrBuy.BAD, STATE = RentOrBuy.STATE, FULL = RentOrBuy.FULL;
    private static final int FRONT = 0, STAYS = 1, BEST_STAYS = 2, BEST = 3;

    private ListEdgesTest() {
    }

    public static void main(String[] args) throws ReflectiveOperationException {
        Due.runPromises(ListEdgesTest.class);
    }

    private static RentOrBuy withThings(int n) {
        RentOrBuy x = new RentOrBuy();
        x.list(n);
        return x;
    }

    private static RentOrBuy asked(int n, int... requests) {
        RentOrBuy x = withThings(n);
        for (int thing : requests) {
            x.request(thing);
        }
        return x;
    }

    private static RentOrBuy askedFor(int n, int thing, int times) {
        RentOrBuy x = withThings(n);
        for (int i = 0; i < times; i++) {
            x.request(thing);
        }
        return x;
    }

    private static void dueServes(RentOrBuy x, int front, int stays, int bestStays, int best) {
        Due.is("front", x.serve(FRONT), front);
        Due.is("stays", x.serve(STAYS), stays);
        Due.is("the best that stays", x.serve(BEST_STAYS), bestStays);
        Due.is("best", x.serve(BEST), best);
    }

    private static void dueOrder(RentOrBuy x, int... order) {
        for (int i = 1; i <= order.length; i++) {
            Due.is("at(" + i + ")", x.at(i), order[i - 1]);
        }
    }

    // ---- 14 list

    private static void promise14Things() {
        RentOrBuy x = new RentOrBuy();
        Due.limits("n", 1, 4, x::list);
        x.list(1);
        Due.is("as few as can be", x.count(2), 1);
        x.list(4);
        Due.is("as many as can be", x.count(2), 4);
    }

    private static void promise14HowManyItHad() {
        RentOrBuy x = new RentOrBuy();
        Due.is("at first", x.list(1), 3);
        Due.is("the least", x.list(4), 1);
        Due.is("the greatest", x.list(4), 4);
        Due.is("the same again", x.list(2), 4);
        Due.is("two", x.list(3), 2);
    }

    private static void promise14NoRequests() {
        for (int n = 1; n <= 4; n++) {
            RentOrBuy x = askedFor(3, 2, 16);
            x.list(n);
            Due.is("no request is left", x.count(3), 0);
            Due.is("nothing to drop", x.drop(), STATE);
            dueServes(x, 0, 0, 0, 0);
            Due.is("the first of them", x.request(0), 1);
        }
    }

    private static void promise14InOrderAgain() {
        RentOrBuy x = asked(4, 3, 2, 1);
        x.list(4);
        dueOrder(x, 0, 1, 2, 3);
        RentOrBuy y = asked(4, 3, 2, 1);
        y.list(2);
        dueOrder(y, 0, 1);
    }

    private static void promise14NothingElseChanges() {
        RentOrBuy x = new RentOrBuy();
        x.ends(33);
        x.offer(2, 2, 3, 7, 40);
        x.share(0, 34, 5);
        x.share(1, 33, 6);
        x.rent(1);
        x.list(4);
        Due.is("E", x.count(0), 33);
        Due.is("kind", x.count(1), 2);
        Due.is("price", x.cost(1, 1), 40);
        Due.is("share of a plan", x.share(0, 34, 0), 5);
        Due.is("share of an end", x.share(1, 33, 0), 6);
        Due.is("trace", x.trace(), 111);
    }

    // ---- 15 request

    private static void promise15Thing() {
        for (int n = 1; n <= 4; n++) {
            Due.limits("thing of " + n, 0, n - 1, withThings(n)::request);
        }
    }

    private static void promise15HowManyThereAre() {
        RentOrBuy x = new RentOrBuy();
        for (int i = 1; i <= 16; i++) {
            Due.is("request " + i, x.request(i % 3), i);
            Due.is("requests", x.count(3), i);
        }
    }

    private static void promise15Full() {
        for (int n = 1; n <= 4; n++) {
            RentOrBuy x = askedFor(n, n - 1, 15);
            Due.is("the 16th", x.request(0), 16);
            Due.is("the 17th", x.request(0), FULL);
            Due.is("the 17th once more", x.request(n - 1), FULL);
            Due.is("requests", x.count(3), 16);
        }
    }

    private static void promise15BadIsAheadOfFull() {
        for (int n = 1; n <= 4; n++) {
            RentOrBuy x = askedFor(n, 0, 16);
            for (int thing : new int[] {-1, n, Integer.MIN_VALUE, Integer.MAX_VALUE}) {
                Due.is("request(" + thing + ")", x.request(thing), BAD);
            }
            Due.is("the last thing", x.request(n - 1), FULL);
        }
    }

    private static void promise15RoomAfterADrop() {
        RentOrBuy x = askedFor(3, 0, 16);
        x.drop();
        Due.is("room for one", x.request(2), 16);
        Due.is("and no more", x.request(2), FULL);
        dueOrder(x, 2, 0, 1);
    }

    private static void promise15RoomAfterAList() {
        RentOrBuy x = askedFor(3, 0, 16);
        x.list(3);
        Due.is("room", x.request(0), 1);
    }

    private static void promise15ThingsOfTheListBefore() {
        RentOrBuy x = withThings(4);
        Due.is("the last of four", x.request(3), 1);
        x.list(3);
        Due.is("none of three", x.request(3), BAD);
        Due.is("the last of three", x.request(2), 1);
    }

    // ---- 16 drop

    private static void promise16None() {
        RentOrBuy x = new RentOrBuy();
        Due.is("at first", x.drop(), STATE);
        Due.is("once more", x.drop(), STATE);
        Due.is("requests", x.count(3), 0);
    }

    private static void promise16One() {
        RentOrBuy x = asked(3, 2);
        Due.is("the only one", x.drop(), 0);
        Due.is("none is left", x.drop(), STATE);
        dueServes(x, 0, 0, 0, 0);
        dueOrder(x, 0, 1, 2);
    }

    private static void promise16All() {
        RentOrBuy x = askedFor(4, 3, 16);
        for (int left = 15; left >= 0; left--) {
            Due.is("drop", x.drop(), left);
        }
        Due.is("none is left", x.drop(), STATE);
    }

    private static void promise16TheLatest() {
        RentOrBuy x = asked(3, 0, 1, 2);
        x.drop();
        dueOrder(x, 1, 0, 2);
        Due.is("front", x.serve(FRONT), 1 + 2);
        x.request(2);
        x.drop();
        Due.is("the latest again", x.serve(STAYS), 1 + 2);
    }

    private static void promise16DropBehindARefusedRequest() {
        RentOrBuy full = askedFor(3, 0, 15);
        full.request(2);
        full.request(1);
        full.drop();
        Due.is("the refused one was none", full.serve(FRONT), 15);
    }

    // ---- 17 serve

    private static void promise17What() {
        for (int n = 1; n <= 4; n++) {
            Due.limits("what, without requests", FRONT, BEST, withThings(n)::serve);
            Due.limits("what, with all requests", FRONT, BEST, askedFor(n, n - 1, 16)::serve);
        }
    }

    private static void promise17NoRequests() {
        for (int n = 1; n <= 4; n++) {
            dueServes(withThings(n), 0, 0, 0, 0);
        }
    }

    private static void promise17OneRequest() {
        for (int n = 1; n <= 4; n++) {
            for (int thing = 0; thing < n; thing++) {
                dueServes(asked(n, thing), thing + 1, thing + 1, 1, thing + 1);
            }
        }
    }

    private static void promise17OneThing() {
        for (int times = 0; times <= 16; times++) {
            dueServes(askedFor(1, 0, times), times, times, times, times);
        }
    }

    private static void promise17AllRequestsForTheFirst() {
        for (int n = 1; n <= 4; n++) {
            dueServes(askedFor(n, 0, 16), 16, 16, 16, 16);
        }
    }

    private static void promise17AllRequestsForTheLast() {
        for (int n = 1; n <= 4; n++) {
            dueServes(askedFor(n, n - 1, 16), n + 15, 16 * n, 16, n + 15);
        }
    }

    /** From the first four on each thing stands last when it is asked for. */
    private static void promise17FrontAtItsGreatest() {
        RentOrBuy x = withThings(4);
        for (int i = 0; i < 16; i++) {
            x.request(3 - i % 4);
        }
        dueServes(x, 64, 40, 40, 40);
    }

    private static void promise17TheSixteenthCounts() {
        RentOrBuy x = askedFor(4, 0, 15);
        dueServes(x, 15, 15, 15, 15);
        x.request(3);
        dueServes(x, 19, 19, 17, 19);
    }

    private static void promise17AnyPlaceFurtherAhead() {
        Due.is("to the front", asked(3, 2, 2, 2).serve(BEST), 3 + 1 + 1);
        // to the front each time, or never, costs 8
        Due.is("to the place ahead", asked(3, 2, 0, 0, 2).serve(BEST), 3 + 1 + 1 + 2);
        Due.is("to no other place", asked(3, 2, 0, 1).serve(BEST), 3 + 1 + 2);
    }

    private static void promise17NeighboursForOneEach() {
        // 0 goes behind both for 2; moves for nothing alone cost 9
        Due.is("they pay", asked(3, 2, 1, 1, 2).serve(BEST), 2 + 2 + 1 + 1 + 2);
        Due.is("they do not pay", asked(3, 1, 2).serve(BEST), 2 + 3);
    }

    private static void promise17AnyNumberOfExchanges() {
        // 0 and 1 go behind 2 and 3 for 4 in all; one exchange ahead of each request alone costs 11
        Due.is("several ahead of one request", asked(4, 3, 2, 2, 3).serve(BEST), 4 + 2 + 1 + 1 + 2);
    }

    private static void promise17ServingChangesNothing() {
        RentOrBuy x = asked(4, 3, 1, 2, 1);
        for (int round = 0; round < 2; round++) {
            dueServes(x, 4 + 3 + 4 + 2, 4 + 2 + 3 + 2, 2 + 1 + 3 + 1, 4 + 2 + 3 + 1);
            dueOrder(x, 1, 2, 3, 0);
        }
        Due.is("requests", x.count(3), 4);
    }

    // ---- 18 at

    private static void promise18Place() {
        for (int n = 1; n <= 4; n++) {
            Due.limits("place of " + n, 1, n, withThings(n)::at);
            Due.limits("place of " + n + " behind requests", 1, n, askedFor(n, n - 1, 16)::at);
        }
    }

    private static void promise18NoRequests() {
        dueOrder(withThings(1), 0);
        dueOrder(withThings(2), 0, 1);
        dueOrder(withThings(3), 0, 1, 2);
        dueOrder(withThings(4), 0, 1, 2, 3);
    }

    private static void promise18FirstAndLastThing() {
        dueOrder(asked(4, 0), 0, 1, 2, 3);
        dueOrder(asked(4, 3), 3, 0, 1, 2);
        dueOrder(asked(4, 3, 3), 3, 0, 1, 2);
        dueOrder(asked(1, 0), 0);
    }

    private static void promise18BehindAllRequests() {
        RentOrBuy x = askedFor(4, 0, 15);
        dueOrder(x, 0, 1, 2, 3);
        x.request(2);
        dueOrder(x, 2, 0, 1, 3);
        x.request(3);
        dueOrder(x, 2, 0, 1, 3);
    }

    // ---- 19 count

    private static void promise19What() {
        Due.limits("what", 0, 3, new RentOrBuy()::count);
    }

    private static void promise19E() {
        RentOrBuy x = new RentOrBuy();
        for (int e : new int[] {1, 40}) {
            x.ends(e);
            Due.is("E", x.count(0), e);
        }
    }

    private static void promise19Kind() {
        RentOrBuy x = new RentOrBuy();
        for (int kind : new int[] {2, 1, 0}) {
            x.offer(kind, 1, 1, 1, 1);
            Due.is("kind", x.count(1), kind);
        }
    }

    private static void promise19Things() {
        Due.is("the least", withThings(1).count(2), 1);
        Due.is("the greatest", withThings(4).count(2), 4);
    }

    private static void promise19Requests() {
        Due.is("none", askedFor(2, 1, 0).count(3), 0);
        Due.is("sixteen", askedFor(2, 1, 16).count(3), 16);
        Due.is("a seventeenth is none", askedFor(2, 1, 17).count(3), 16);
    }

    // ---- 20 trace

    private static void promise20EachKind() {
        int[] due = {1, 11, 111};
        for (int kind = 0; kind <= 2; kind++) {
            RentOrBuy x = new RentOrBuy();
            x.offer(kind, 1, 1, 1, 1);
            Due.is("an offer comes to no trace", x.trace(), 0);
            x.rent(1);
            Due.is("one rent of kind " + kind, x.trace(), due[kind]);
            x.rent(40);
            Due.is("two rents of kind " + kind, x.trace(), 2 * due[kind]);
        }
    }

    private static void promise20RefusedRents() {
        for (int kind = 0; kind <= 2; kind++) {
            RentOrBuy x = new RentOrBuy();
            x.offer(kind, 1, 1, 1, 1);
            for (int day : new int[] {0, 41, Integer.MIN_VALUE, Integer.MAX_VALUE}) {
                x.rent(day);
            }
            Due.is("trace", x.trace(), 0);
        }
    }

    private static void promise20OnlyRentAsks() {
        RentOrBuy x = new RentOrBuy();
        x.offer(2, 1, 1, 1, 1);
        x.ends(5);
        x.cost(1, 1);
        x.known(1);
        x.ratio(1, 0, 0);
        x.sure();
        x.share(0, 1, 1);
        x.share(1, 1, 1);
        x.mean(1, 0);
        x.bound(0);
        x.bound(1);
        x.guess(1, 1);
        x.trust(1, 1, 1, 1);
        x.list(2);
        x.request(1);
        x.serve(3);
        x.at(1);
        x.drop();
        x.count(1);
        Due.is("trace", x.trace(), 0);
    }

    /** 512 calls in all, as many as are promised. */
    private static void promise20UpToTheLastCall() {
        RentOrBuy x = new RentOrBuy();
        x.offer(2, 1, 1, 1, 1);
        for (int i = 0; i < 510; i++) {
            x.rent(1 + i % 40);
        }
        Due.is("trace", x.trace(), 510 * 111);
    }
}
