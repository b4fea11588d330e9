/** Long mixed runs of calls, each answer held against the reference; wrong numbers and edges among them. */
public final class ModelTest {
    private static final int RUNS = 160, CALLS = 512;

    private final RentOrBuy x = new RentOrBuy();
    private final Reference r = new Reference();
    private long state;
    private int calls = 0;

    private ModelTest(long seed) {
        state = seed;
    }

    public static void main(String[] args) {
        for (int run = 0; run < RUNS; run++) {
            ModelTest test = new ModelTest(run * 7919L + 1);
            while (test.calls < CALLS) {
                test.step(run % 4);
            }
        }
        for (int things = 1; things <= 4; things++) {
            allShortRequests(things);
        }
        Due.finish();
    }

    /** A number 0 .. n - 1, the same in every run of this test. */
    private int next(int n) {
        state = state * 6364136223846793005L + 1442695040888963407L;
        return (int) Long.remainderUnsigned(state >>> 33, n);
    }

    /** Mostly a number low .. high, at times an edge, one beyond it, or one far away. */
    private int number(int low, int high) {
        switch (next(24)) {
            case 0: return low - 1;
            case 1: return high + 1;
            case 2: return low;
            case 3: return high;
            case 4: return next(4) == 0 ? Integer.MIN_VALUE : low;
            case 5: return next(4) == 0 ? Integer.MAX_VALUE : high;
            default: return low + next(high - low + 1);
        }
    }

    /** Asked of the reference: the calls of the object are counted. */
    private int end() {
        return number(1, r.count(0));
    }

    private int plan() {
        return number(1, r.count(0) + 1);
    }

    private void due(String call, long got, long want) {
        calls++;
        Due.is(call, got, want);
    }

    private void step(int flavour) {
        int call = next(flavour == 0 ? 20 : 40);
        if (call >= 20) {
            call = flavour == 1 ? next(7) : flavour == 2 ? 7 + next(5) : 12 + next(5);
        }
        if (call < 7) {
            offerStep(call);
        } else if (call < 12) {
            lotsStep(call);
        } else {
            listStep(call);
        }
    }

    private void offerStep(int call) {
        int a = number(0, 2);
        int plan = plan();
        int end = end();
        int part = number(0, 1);
        switch (call) {
            case 0: offerCall(a); break;
            case 1: if (next(3) == 0) { int e = number(1, 40); due("ends(" + e + ")", x.ends(e), r.ends(e)); } break;
            case 2: int d = number(1, 40); due("rent(" + d + ")", x.rent(d), r.rent(d)); break;
            case 3: due("cost(" + plan + ", " + end + ")", x.cost(plan, end), r.cost(plan, end)); break;
            case 4: due("known(" + end + ")", x.known(end), r.known(end)); break;
            case 5:
                int by = next(2) == 0 ? 0 : end;
                due("ratio(" + plan + ", " + by + ", " + part + ")", x.ratio(plan, by, part), r.ratio(plan, by, part));
                break;
            default: due("sure()", x.sure(), r.sure());
        }
    }

    private void offerCall(int kind) {
        int rent = next(2) == 0 ? number(1, 50) : number(1, 5);
        int rise = number(0, 20);
        int cap = number(1, 200);
        int price = next(2) == 0 ? number(1, 500) : number(1, 60);
        String text = "offer(" + kind + ", " + rent + ", " + rise + ", " + cap + ", " + price + ")";
        due(text, x.offer(kind, rent, rise, cap, price), r.offer(kind, rent, rise, cap, price));
    }

    private void lotsStep(int call) {
        int end = end();
        int part = number(0, 1);
        int t = number(1, 9);
        int what = number(0, 1);
        switch (call) {
            case 7:
                for (int i = 0; i < 3 && calls < CALLS; i++) {
                    int of = number(0, 1);
                    int which = of == 0 ? plan() : end();
                    int v = number(0, 9);
                    due("share(" + of + ", " + which + ", " + v + ")", x.share(of, which, v), r.share(of, which, v));
                }
                break;
            case 8: due("mean(" + end + ", " + part + ")", x.mean(end, part), r.mean(end, part)); break;
            case 9: due("bound(" + what + ")", x.bound(what), r.bound(what)); break;
            case 10: due("guess(" + end + ", " + t + ")", x.guess(end, t), r.guess(end, t)); break;
            default:
                String text = "trust(" + end + ", " + t + ", " + what + ", " + part + ")";
                due(text, x.trust(end, t, what, part), r.trust(end, t, what, part));
        }
    }

    private void listStep(int call) {
        int what = number(0, 3);
        switch (call) {
            case 12: if (next(6) == 0) { int n = number(1, 4); due("list(" + n + ")", x.list(n), r.list(n)); } break;
            case 13:
                for (int i = 0; i < 3 && calls < CALLS; i++) {
                    int thing = number(0, r.count(2) - 1);
                    due("request(" + thing + ")", x.request(thing), r.request(thing));
                }
                break;
            case 14: due("drop()", x.drop(), r.drop()); break;
            case 15: due("serve(" + what + ")", x.serve(what), r.serve(what)); break;
            case 16: int i = number(1, r.count(2)); due("at(" + i + ")", x.at(i), r.at(i)); break;
            case 17: due("count(" + what + ")", x.count(what), r.count(what)); break;
            default: due("trace()", x.trace(), r.trace());
        }
    }

    private static void allShortRequests(int things) {
        int length = 5;
        int all = (int) Math.round(Math.pow(things, length));
        for (int code = 0; code < all; code++) {
            RentOrBuy x = new RentOrBuy();
            Reference r = new Reference();
            x.list(things);
            r.list(things);
            for (int i = 0, rest = code; i < length; i++, rest /= things) {
                x.request(rest % things);
                r.request(rest % things);
            }
            for (int what = 0; what <= 3; what++) {
                Due.is("serve(" + what + ") of requests " + code, x.serve(what), r.serve(what));
            }
        }
    }
}
