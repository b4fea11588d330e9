/** Promises 14 to 20: list, request, drop, serve, at, count, trace. */
public final class ListTest {
    private ListTest() {
    }

    public static void main(String[] args) {
        lists();
        requests();
        drops();
        serves();
        bestMoves();
        places();
        counts();
        traces();
        Due.finish();
    }

    private static RentOrBuy asked(int things, int... requests) {
        RentOrBuy x = new RentOrBuy();
        x.list(things);
        for (int thing : requests) {
            x.request(thing);
        }
        return x;
    }

    private static void lists() {
        RentOrBuy x = asked(3, 2, 1);
        Due.is("list(0)", x.list(0), RentOrBuy.BAD);
        Due.is("list(5)", x.list(5), RentOrBuy.BAD);
        Due.is("a refused list changes nothing", x.count(3), 2);
        Due.is("a refused list changes nothing", x.at(1), 1);
        Due.is("list(4)", x.list(4), 3);
        Due.is("no requests", x.count(3), 0);
        Due.is("in order again", x.at(1), 0);
        Due.is("list(1)", x.list(1), 4);
        Due.is("list(1)", x.list(1), 1);
    }

    private static void requests() {
        RentOrBuy x = new RentOrBuy();
        Due.is("request(-1)", x.request(-1), RentOrBuy.BAD);
        Due.is("request(3)", x.request(3), RentOrBuy.BAD);
        for (int i = 1; i <= 16; i++) {
            Due.is("request " + i, x.request(i % 3), i);
        }
        Due.is("full", x.request(0), RentOrBuy.FULL);
        Due.is("BAD is ahead of FULL", x.request(3), RentOrBuy.BAD);
        Due.is("a refused request is none", x.count(3), 16);
        x.list(4);
        Due.is("request(3)", x.request(3), 1);
        x.list(1);
        Due.is("request(1)", x.request(1), RentOrBuy.BAD);
    }

    private static void drops() {
        RentOrBuy x = new RentOrBuy();
        Due.is("nothing to drop", x.drop(), RentOrBuy.STATE);
        x.request(2);
        x.request(1);
        Due.is("front", x.serve(0), 6);
        Due.is("drop", x.drop(), 1);
        Due.is("the latest is gone", x.serve(0), 3);
        Due.is("the latest is gone", x.at(1), 2);
        Due.is("drop", x.drop(), 0);
        Due.is("drop", x.drop(), RentOrBuy.STATE);
        for (int i = 0; i < 16; i++) {
            x.request(0);
        }
        Due.is("drop of a full list", x.drop(), 15);
        Due.is("place for one more", x.request(0), 16);
    }

    private static void serves() {
        RentOrBuy none = new RentOrBuy();
        for (int what = 0; what <= 3; what++) {
            Due.is("no request", none.serve(what), 0);
        }
        Due.is("serve(-1)", none.serve(-1), RentOrBuy.BAD);
        Due.is("serve(4)", none.serve(4), RentOrBuy.BAD);
        RentOrBuy x = asked(3, 2, 2, 0, 2);
        Due.is("front", x.serve(0), 3 + 1 + 2 + 2);
        Due.is("stays", x.serve(1), 3 + 3 + 1 + 3);
        Due.is("the best that stays", x.serve(2), 3 + 2);
        Due.is("best", x.serve(3), 3 + 1 + 2 + 1);
    }

    private static void bestMoves() {
        Due.is("one request", asked(4, 3).serve(3), 4);
        Due.is("a move ahead is free", asked(4, 3, 3, 3).serve(3), 6);
        // 2 goes ahead to the second place, and 0 stays in front
        Due.is("ahead, but not to the front", asked(3, 2, 0, 2, 0, 2, 0).serve(3), 3 + 1 + 2 + 1 + 2 + 1);
        // 0 goes behind both for 2, then 1 and 2 cost 1 and 2 in turn
        Due.is("exchanges are told ahead", asked(3, 1, 2, 1, 2, 1, 2, 1, 2).serve(3), 2 + 4 * (1 + 2));
        // 2 stays behind 1 although it could go to the front for nothing
        Due.is("exchanges only where they pay", asked(3, 2, 1).serve(3), 3 + 2);
        Due.is("one thing", asked(1, 0, 0, 0).serve(3), 3);
    }

    private static void places() {
        RentOrBuy x = asked(4, 3, 1, 2, 1);
        int[] due = {1, 2, 3, 0};
        for (int i = 1; i <= 4; i++) {
            Due.is("at(" + i + ")", x.at(i), due[i - 1]);
        }
        Due.is("at(0)", x.at(0), RentOrBuy.BAD);
        Due.is("at(5)", x.at(5), RentOrBuy.BAD);
        x.list(2);
        Due.is("at(3)", x.at(3), RentOrBuy.BAD);
        x.serve(3);
        Due.is("serving moves nothing", x.at(1), 0);
    }

    private static void counts() {
        RentOrBuy x = asked(4, 3, 3);
        x.ends(33);
        x.offer(2, 1, 1, 1, 1);
        Due.is("E", x.count(0), 33);
        Due.is("kind", x.count(1), 2);
        Due.is("things", x.count(2), 4);
        Due.is("requests", x.count(3), 2);
        Due.is("count(-1)", x.count(-1), RentOrBuy.BAD);
        Due.is("count(4)", x.count(4), RentOrBuy.BAD);
    }

    private static void traces() {
        RentOrBuy x = new RentOrBuy();
        x.rent(1);
        x.rent(0);
        x.rent(41);
        Due.is("flat, and nothing for refused calls", x.trace(), 1);
        x.offer(1, 1, 1, 1, 10);
        Due.is("only rent() counts", x.trace(), 1);
        x.rent(40);
        Due.is("rising", x.trace(), 12);
        x.offer(2, 1, 1, 1, 10);
        x.rent(1);
        Due.is("capped", x.trace(), 123);
        x.cost(2, 2);
        x.known(5);
        x.ratio(1, 0, 0);
        x.sure();
        x.guess(3, 3);
        x.share(0, 1, 1);
        x.mean(1, 0);
        x.bound(0);
        Due.is("only rent() counts", x.trace(), 123);
        x.ends(3);
        x.list(2);
        Due.is("nothing takes it back", x.trace(), 123);
    }
}
