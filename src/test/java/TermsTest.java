import java.lang.reflect.Method;
import java.util.ArrayList;
import java.util.HashMap;
import java.util.List;
import java.util.Map;

/** The document's terms, sentence by sentence, from the first to the last. */
public final class TermsTest {
    private static final int BAD = RentOrBuy.BAD, STATE = RentOrBuy.STATE, FULL = RentOrBuy.FULL;
    private static final int FLAT = 0, RISING = 1, CAPPED = 2;
    private static final Told TOLD = new Told();

    private TermsTest() {
    }

    public static void main(String[] args) throws ReflectiveOperationException {
        Due.runNamed(TermsTest.class, "term");
        TOLD.nothingIsLeft(Told.TERMS, Told.TERMS);
        Due.finish();
    }

    private static void says(String sentence) {
        TOLD.says(Told.TERMS, sentence);
    }

    // ---- 1 an offer

    private static void termKinds() {
        says("0 FLAT, 1 RISING, 2 CAPPED; FLAT stands over RISING, RISING over CAPPED.");
        RentOrBuy x = new RentOrBuy();
        for (int kind = FLAT; kind <= CAPPED; kind++) {
            x.offer(kind, 5, 3, 11, 40);
            Due.is("kind", x.count(1), kind);
        }
        RentOrBuy flat = new RentOrBuy(), rising = new RentOrBuy(), capped = new RentOrBuy();
        flat.offer(FLAT, 5, 0, 0, 40);
        rising.offer(RISING, 5, 0, 0, 40);
        capped.offer(CAPPED, 5, 0, 200, 40);
        for (int day = 1; day <= 40; day++) {
            Due.is("rising is as flat without a rise, day " + day, rising.rent(day), flat.rent(day));
            Due.is("capped is as rising below the cap, day " + day, capped.rent(day), rising.rent(day));
        }
    }

    private static void termNumbersOfAnOffer() {
        says("It has a RENT (1 .. 50), a RISE (0 .. 20), a CAP (1 .. 200), a PRICE (1 .. 500).");
        RentOrBuy x = new RentOrBuy();
        Due.limits("rent", 1, 50, rent -> x.offer(CAPPED, rent, 1, 1, 1));
        Due.limits("rise", 0, 20, rise -> x.offer(CAPPED, 1, rise, 1, 1));
        Due.limits("cap", 1, 200, cap -> x.offer(CAPPED, 1, 1, cap, 1));
        Due.limits("price", 1, 500, price -> x.offer(CAPPED, 1, 1, 1, price));
        for (int rent = 1; rent <= 50; rent++) {
            x.offer(FLAT, rent, 0, 0, 500);
            Due.is("rent", x.rent(1), rent);
        }
        for (int rise = 0; rise <= 20; rise++) {
            x.offer(RISING, 1, rise, 0, 500);
            Due.is("rise", x.rent(2), 1 + rise);
        }
        RentOrBuy capped = new RentOrBuy(), priced = new RentOrBuy();
        for (int cap = 1; cap <= 200; cap++) {
            capped.offer(CAPPED, 50, 20, cap, 500);
            Due.is("cap", capped.rent(40), cap);
        }
        for (int price = 1; price <= 500; price += 7) {
            priced.offer(FLAT, 1, 0, 0, price);
            Due.is("price", priced.cost(1, 1), price);
        }
    }

    private static void termTrace() {
        says("RENT of a DAY d (1, 2, ..; numbers in brackets come to THE TRACE as often as rent() asks that body; "
                + "\"up\" is what the KIND that stands over it does):");
        int[] bodies = {1, 10 + 1, 100 + 10 + 1};
        RentOrBuy x = new RentOrBuy();
        long due = 0;
        for (int i = 0; i < 120; i++) {
            int kind = i * 7 % 5 % 3;
            x.offer(kind, 1 + i % 50, i % 21, 1 + i, 500);
            x.rent(1 + i % 40);
            due += bodies[kind];
            Due.is("trace", x.trace(), due);
        }
    }

    private static void termFlat() {
        says("FLAT its RENT (1).");
        rentsOf(FLAT);
    }

    private static void termRising() {
        says("RISING up, and its RISE for each DAY ahead of d (10).");
        rentsOf(RISING);
    }

    private static void termCapped() {
        says("CAPPED up, its CAP at most (100).");
        rentsOf(CAPPED);
    }

    private static void rentsOf(int kind) {
        for (Offering o : Offering.all()) {
            Renewed objects = o.objects();
            for (int day = 1; o.kind() == kind && day <= 40; day++) {
                Due.is(o + ": rent(" + day + ")", objects.x().rent(day), o.rentOf(day));
            }
        }
    }

    private static void termFirstOffer() {
        says("(FLAT, RENT 1, PRICE 10 at first.)");
        RentOrBuy x = new RentOrBuy();
        Due.is("kind", x.count(1), FLAT);
        Due.is("rent", x.rent(1), 1);
        Due.is("rent", x.rent(40), 1);
        Due.is("price", x.cost(1, 20), 10);
        Due.is("rents", x.cost(21, 20), 20);
        x.ends(40);
        Due.is("all rents", x.cost(41, 40), 40);
    }

    private static void termEnds() {
        says("ENDS are DAYS 1 .. E (E 1 .. 40; 20 at first).");
        Due.is("at first", new RentOrBuy().count(0), 20);
        Due.limits("E", 1, 40, e -> new RentOrBuy().ends(e));
        for (int e = 1; e <= 40; e++) {
            RentOrBuy x = new RentOrBuy();
            x.ends(e);
            Due.limits("end of E " + e, 1, e, x::known);
        }
    }

    private static void termPlans() {
        says("A PLAN k buys on DAY k (1 .. E), or E + 1: never.");
        for (int e = 1; e <= 40; e++) {
            RentOrBuy x = new RentOrBuy();
            x.offer(FLAT, 1, 0, 0, 100);
            x.ends(e);
            Due.limits("plan of E " + e, 1, e + 1, plan -> x.cost(plan, 1));
            for (int plan = 1; plan <= e; plan++) {
                Due.is("plan " + plan + " buys on its day", x.cost(plan, plan), plan - 1 + 100);
            }
            Due.is("the last plan never buys", x.cost(e + 1, e), e);
        }
    }

    private static void termCost() {
        says("COST of a PLAN by an END e: where k is e or less: RENTS of DAYS 1 .. k - 1, and the PRICE; "
                + "else RENTS of DAYS 1 .. e.");
        for (Offering o : Offering.all()) {
            Renewed objects = o.objects();
            for (int plan = 1; plan <= o.e() + 1; plan++) {
                for (int end = 1; end <= o.e(); end++) {
                    Due.is(o + ": cost(" + plan + ", " + end + ")", objects.x().cost(plan, end), o.costOf(plan, end));
                }
            }
        }
    }

    private static void termKnown() {
        says("KNOWN by e: the least COST by e of all PLANS.");
        for (Offering o : Offering.all()) {
            Renewed objects = o.objects();
            for (int end = 1; end <= o.e(); end++) {
                int least = objects.x().cost(1, end);
                for (int plan = 2; plan <= o.e() + 1; plan++) {
                    least = Math.min(least, objects.x().cost(plan, end));
                }
                Due.is(o + ": known(" + end + ")", objects.x().known(end), least);
            }
        }
    }

    private static void termRatio() {
        says("RATIO of a PLAN by e: its COST by KNOWN.");
        for (Offering o : Offering.all()) {
            Renewed objects = o.objects();
            for (int plan = 1; plan <= o.e() + 1; plan++) {
                for (int end = 1; end <= o.e(); end++) {
                    Part ratio = Part.ratio(objects, plan, end);
                    Due.is(o + ": ratio(" + plan + ", " + end + ", ..)",
                            ratio.compare(objects.x().cost(plan, end), objects.x().known(end)), 0);
                }
            }
        }
    }

    private static void termWorst() {
        says("WORST of a PLAN: its greatest RATIO of all ENDS.");
        for (Offering o : Offering.all()) {
            Renewed objects = o.objects();
            for (int plan = 1; plan <= o.e() + 1; plan++) {
                Part most = Part.ratio(objects, plan, 1);
                for (int end = 2; end <= o.e(); end++) {
                    Part ratio = Part.ratio(objects, plan, end);
                    most = ratio.compare(most) > 0 ? ratio : most;
                }
                Due.is(o + ": worst of plan " + plan, Part.ratio(objects, plan, 0).compare(most), 0);
            }
        }
    }

    private static void termSure() {
        says("SURE: the PLAN with the least WORST; of several the least.");
        for (Offering o : Offering.all()) {
            Renewed objects = o.objects();
            int sure = 1;
            for (int plan = 2; plan <= o.e() + 1; plan++) {
                if (Part.ratio(objects, plan, 0).compare(Part.ratio(objects, sure, 0)) < 0) {
                    sure = plan;
                }
            }
            Due.is(o + ": sure()", objects.x().sure(), sure);
        }
    }

    // ---- 2 lots

    private static void termShares() {
        says("LOTS: each PLAN has a SHARE, each END has a SHARE (0 .. 9 each; all 0 at first).");
        for (int e : new int[] {1, 20, 40}) {
            RentOrBuy x = new RentOrBuy();
            x.ends(e);
            for (int i = 1; i <= e + 1; i++) {
                Due.is("share of plan " + i, x.share(0, i, i % 10), 0);
                Due.is("share of end " + i, x.share(1, i, 9 - i % 10), i <= e ? 0 : BAD);
            }
            for (int i = 1; i <= e + 1; i++) {
                Due.is("share of plan " + i, x.share(0, i, 9), i % 10);
                Due.is("share of end " + i, x.share(1, i, 9), i <= e ? 9 - i % 10 : BAD);
            }
            Due.limits("share of a plan", 0, 9, v -> x.share(0, 1, v));
            Due.limits("share of an end", 0, 9, v -> x.share(1, 1, v));
        }
    }

    /** Shares of plans or of ends by a number that tells how they are spread. */
    private static int shareBy(int spread, int i, int e) {
        switch (spread) {
            case 0: return i == 1 ? 1 : 0;
            case 1: return i >= e ? 4 : 0;
            case 2: return (i * 7 + e) % 10;
            default: return 9;
        }
    }

    private static Renewed withShares(Offering o, int spread) {
        return new Renewed(x -> {
            o.lead(x);
            for (int i = 1; i <= o.e() + 1; i++) {
                x.share(0, i, shareBy(spread, i, o.e()));
                x.share(1, i, shareBy(spread, i, o.e()));
            }
        });
    }

    private static int sumOfShares(int spread, int count, int e) {
        int sum = 0;
        for (int i = 1; i <= count; i++) {
            sum += shareBy(spread, i, e);
        }
        return sum;
    }

    private static void termMean() {
        says("MEAN by an END: the sum of SHARES of PLANS times their RATIO by it, by the sum of the SHARES.");
        for (Offering o : Offering.all()) {
            for (int spread = 0; spread <= 3; spread++) {
                Renewed objects = withShares(o, spread);
                for (int end = 1; end <= o.e(); end++) {
                    long sum = 0;
                    long known = objects.x().known(end);
                    for (int plan = 1; plan <= o.e() + 1; plan++) {
                        Part ratio = Part.ratio(objects, plan, end);
                        sum += shareBy(spread, plan, o.e()) * ratio.upper() * (known / ratio.lower());
                    }
                    Due.is(o + ": mean(" + end + ", ..)",
                            Part.mean(objects, end).compare(sum, known * sumOfShares(spread, o.e() + 1, o.e())), 0);
                }
            }
        }
    }

    private static void termUpperBound() {
        says("UPPER BOUND: the greatest MEAN of all ENDS.");
        for (Offering o : Offering.all()) {
            for (int spread = 0; spread <= 3; spread++) {
                Renewed objects = withShares(o, spread);
                Part most = Part.mean(objects, 1);
                for (int end = 2; end <= o.e(); end++) {
                    Part mean = Part.mean(objects, end);
                    most = mean.compare(most) > 0 ? mean : most;
                }
                Due.is(o + ": bound(0)", objects.x().bound(0), (most.upper() * 1000 + most.lower() - 1) / most.lower());
            }
        }
    }

    private static void termLowerBound() {
        says("LOWER BOUND: the least, over PLANS, of the sum of SHARES of ENDS times the PLAN's RATIO by it, "
                + "by the sum of those.");
        for (Offering o : Offering.all()) {
            for (int spread = 0; spread <= 3; spread++) {
                Renewed objects = withShares(o, spread);
                long least = Long.MAX_VALUE;
                for (int plan = 1; plan <= o.e() + 1; plan++) {
                    long sum = 0;
                    for (int end = 1; end <= o.e(); end++) {
                        Part ratio = Part.ratio(objects, plan, end);
                        sum += shareBy(spread, end, o.e()) * (ratio.upper() * 1000000 / ratio.lower());
                    }
                    least = Math.min(least, sum);
                }
                int shares = sumOfShares(spread, o.e(), o.e());
                Due.is(o + ": bound(1)", objects.x().bound(1), shares == 0 ? STATE : least / shares / 1000);
            }
        }
    }

    private static void termGuess() {
        says("A GUESS g (1 .. E) and a TRUST t (1 .. 9): THE PLAN by it: with S the SURE PLAN's DAY: "
                + "if COST of PLAN 1 by g is less than RENTS of DAYS 1 .. g: S times t by 10, rounded up; "
                + "else S times 10 by t, rounded down, E + 1 at most.");
        for (Offering o : Offering.all()) {
            Renewed objects = o.objects();
            Due.limits("g", 1, o.e(), g -> objects.x().guess(g, 1));
            Due.limits("t", 1, 9, t -> objects.x().guess(1, t));
            int s = objects.x().sure();
            for (int g = 1; g <= o.e(); g++) {
                boolean isLess = objects.x().cost(1, g) < o.rentsUpTo(g);
                for (int t = 1; t <= 9; t++) {
                    int up = s * t / 10 + (s * t % 10 == 0 ? 0 : 1);
                    int down = Math.min(s * 10 / t, o.e() + 1);
                    Due.is(o + ": guess(" + g + ", " + t + ")", objects.x().guess(g, t), isLess ? up : down);
                }
            }
        }
    }

    private static void termRight() {
        says("RIGHT: its RATIO by the END g.");
        trustsAre(0);
    }

    private static void termWrong() {
        says("WRONG: its WORST.");
        trustsAre(1);
    }

    private static void trustsAre(int what) {
        for (Offering o : Offering.all()) {
            Renewed objects = o.objects();
            for (int g = 1; g <= o.e(); g++) {
                for (int t = 1; t <= 9; t++) {
                    int plan = objects.x().guess(g, t);
                    for (int part = 0; part <= 1; part++) {
                        Due.is(o + ": trust(" + g + ", " + t + ", " + what + ", " + part + ")",
                                objects.x().trust(g, t, what, part),
                                objects.x().ratio(plan, what == 0 ? g : 0, part));
                    }
                }
            }
        }
    }

    // ---- 3 the list

    private static RentOrBuy asked(Requests requests) {
        RentOrBuy x = new RentOrBuy();
        requests.lead(x);
        return x;
    }

    private static void termList() {
        says("THE LIST has THINGS 0 .. n - 1 (n 1 .. 4; 3 at first), in order by numbers at first.");
        RentOrBuy first = new RentOrBuy();
        Due.is("at first", first.count(2), 3);
        Due.is("the last thing at first", first.request(2), 1);
        int[] costs = {3, 3, 1, 3};
        for (int what = 0; what <= 3; what++) {
            Due.is("at first: serve(" + what + ")", first.serve(what), costs[what]);
        }
        Due.limits("n", 1, 4, n -> new RentOrBuy().list(n));
        for (int n = 1; n <= 4; n++) {
            RentOrBuy x = new RentOrBuy();
            x.list(n);
            for (int place = 1; place <= n; place++) {
                Due.is("at(" + place + ")", x.at(place), place - 1);
            }
            Due.limits("thing of " + n, 0, n - 1, x::request);
        }
    }

    private static void termRequests() {
        says("REQUESTS (16 at most) are told one by one.");
        RentOrBuy x = new RentOrBuy();
        for (int i = 1; i <= 16; i++) {
            Due.is("request " + i, x.request(i % 3), i);
        }
        Due.is("request 17", x.request(0), FULL);
    }

    private static void termFront() {
        says("FRONT: each REQUEST costs the place (1, 2, ..) of its THING, which goes to the front then.");
        for (Requests requests : Requests.many()) {
            Due.is(requests + ": serve(0)", asked(requests).serve(0), requests.front(requests.inOrder()));
        }
    }

    private static void termStays() {
        says("STAYS: the list stays as it is.");
        for (Requests requests : Requests.many()) {
            Due.is(requests + ": serve(1)", asked(requests).serve(1), requests.stays(requests.inOrder()));
        }
    }

    private static void termBest() {
        says("BEST: the least that all REQUESTS can cost with moves told ahead: before each REQUEST any two neighbours "
                + "may change places, for 1 each; it costs its THING's place; then that may go to any place further "
                + "ahead, for nothing.");
        for (Requests requests : Requests.many()) {
            Due.is(requests + ": serve(3)", asked(requests).serve(3), requests.best());
        }
    }

    // ---- refusals and the face

    private static void termRefused() {
        says("Refused, and nothing changes, the first of these: BAD (a number is not as told, or there is no such "
                + "thing), STATE (as told), FULL.");
        RentOrBuy x = new RentOrBuy();
        Due.is("a number is not as told", x.offer(FLAT, 51, 0, 0, 1), BAD);
        Due.is("nothing changes", x.known(20), 10);
        Due.is("there is no such thing", x.request(3), BAD);
        Due.is("nothing changes", x.count(3), 0);
        Due.is("BAD ahead of STATE", x.mean(21, 0), BAD);
        Due.is("BAD ahead of STATE", x.bound(2), BAD);
        Due.is("STATE", x.mean(20, 0), STATE);
        Due.is("STATE", x.bound(0), STATE);
        Due.is("STATE", x.drop(), STATE);
        for (int i = 0; i < 16; i++) {
            x.request(0);
        }
        Due.is("BAD ahead of FULL", x.request(3), BAD);
        Due.is("FULL", x.request(2), FULL);
        Due.is("nothing changes", x.at(1), 0);
        Due.is("nothing changes", x.count(3), 16);
    }

    private static void termCallsOfAnOffer() {
        says("Ahead of the calls `offer`, `ends`, `rent`, `cost`, `known`, `ratio`, `sure` the interface says: "
                + "---- an offer.");
        thereAre("offer", "ends", "rent", "cost", "known", "ratio", "sure");
    }

    private static void termCallsOfLots() {
        says("Ahead of the calls `share`, `mean`, `bound`, `guess`, `trust` the interface says: ---- lots, guesses.");
        thereAre("share", "mean", "bound", "guess", "trust");
    }

    private static void termCallsOfAList() {
        says("Ahead of the calls `list`, `request`, `drop`, `serve`, `at`, `count`, `trace` the interface says: "
                + "---- a list.");
        thereAre("list", "request", "drop", "serve", "at", "count", "trace");
    }

    private static void thereAre(String... calls) {
        Map<String, Method> face = new HashMap<>();
        for (Method method : RentOrBuy.class.getMethods()) {
            face.put(method.getName(), method);
        }
        List<String> missing = new ArrayList<>(List.of(calls));
        missing.removeAll(face.keySet());
        Due.holds("there are the calls " + missing, missing.isEmpty());
    }
}
