import java.util.ArrayList;
import java.util.List;
import java.util.function.ToLongFunction;

/**
 * A refused call changes nothing that later calls show: in each of several states every kind of refused
 * call is made on an object of its own, which is then asked for all it has, beside one that was spared.
 */
public final class RefusalTest {
    private static final int BAD = RentOrBuy.BAD, STATE = RentOrBuy.STATE, FULL = RentOrBuy.FULL;
    private static final int MIN = Integer.MIN_VALUE, MAX = Integer.MAX_VALUE;

    private final Setting setting;
    private final long[] spared;

    private RefusalTest(Setting setting) {
        this.setting = setting;
        this.spared = allAnswers(setting.made());
    }

    public static void main(String[] args) throws ReflectiveOperationException {
        Due.runPromises(RefusalTest.class);
    }

    /** A state: how an object comes to it. */
    private interface Setting {
        void lead(RentOrBuy x);

        default RentOrBuy made() {
            RentOrBuy x = new RentOrBuy();
            lead(x);
            return x;
        }
    }

    private static void least(RentOrBuy x) {
        x.ends(1);
        x.offer(0, 50, 0, 0, 1);
        x.share(0, 2, 1);
        x.share(1, 1, 1);
        x.list(1);
        x.request(0);
    }

    private static void middle(RentOrBuy x) {
        x.ends(7);
        x.offer(1, 2, 3, 0, 40);
        for (int i = 1; i <= 8; i++) {
            x.share(0, i, i % 3);
            x.share(1, i, 9 - i);
        }
        x.rent(3);
        x.list(2);
        x.request(1);
        x.request(0);
        x.request(1);
    }

    private static void greatest(RentOrBuy x) {
        x.ends(40);
        x.offer(2, 50, 20, 200, 500);
        for (int i = 1; i <= 41; i++) {
            x.share(0, i, i % 10);
            x.share(1, i, 9 - i % 10);
        }
        x.rent(40);
        x.list(4);
        for (int i = 0; i < 16; i++) {
            x.request(i * 7 % 4);
        }
    }

    private static List<RefusalTest> inAllSettings() {
        List<RefusalTest> all = new ArrayList<>();
        all.add(new RefusalTest(x -> { }));
        all.add(new RefusalTest(RefusalTest::least));
        all.add(new RefusalTest(RefusalTest::middle));
        all.add(new RefusalTest(RefusalTest::greatest));
        return all;
    }

    private void refused(String call, int due, ToLongFunction<RentOrBuy> made) {
        RentOrBuy x = setting.made();
        Due.is(call, made.applyAsLong(x), due);
        dueAsSpared(call, x);
    }

    private void dueAsSpared(String call, RentOrBuy x) {
        long[] answers = allAnswers(x);
        Due.is("the number of answers behind " + call, answers.length, spared.length);
        for (int i = 0; i < Math.min(answers.length, spared.length); i++) {
            Due.is("answer " + i + " behind " + call, answers[i], spared[i]);
        }
    }

    /** What an object answers to calls that show all of its state (some 290 at most); it is spent behind them. */
    private static long[] allAnswers(RentOrBuy x) {
        List<Long> answers = new ArrayList<>();
        int e = x.count(0);
        for (int what = 0; what <= 3; what++) {
            answers.add((long) x.count(what));
            answers.add((long) x.serve(what));
        }
        answers.add(x.trace());
        answers.add((long) x.sure());
        for (int i = 0; i <= 1; i++) {
            answers.add((long) x.bound(i));
            answers.add(x.mean(e, i));
            answers.add((long) x.ratio(1, 0, i));
            answers.add((long) x.trust(e, 5, i, 0));
        }
        for (int i = 1; i <= x.count(2); i++) {
            answers.add((long) x.at(i));
        }
        for (int i = 1; i <= e; i++) {
            answers.add((long) x.known(i));
            answers.add((long) x.cost(i, i));
        }
        for (int day = 1; day <= 40; day++) {
            answers.add((long) x.rent(day));
        }
        answers.add(x.trace());
        for (int i = 1; i <= e + 1; i++) {
            answers.add((long) x.share(0, i, 0));
            answers.add((long) x.share(1, i, 0));
        }
        for (int i = 0; i <= 16; i++) {
            answers.add((long) x.drop());
            answers.add((long) x.serve(1));
        }
        return answers.stream().mapToLong(Long::longValue).toArray();
    }

    private void badNumber(String call, int low, int high, Taking taking) {
        for (int number : new int[] {low - 1, high + 1, MIN, MAX}) {
            refused(call + " with " + number, BAD, x -> taking.call(x, number));
        }
    }

    private interface Taking {
        long call(RentOrBuy x, int number);
    }

    private static void promise2RefusedOffer() {
        for (RefusalTest in : inAllSettings()) {
            in.badNumber("offer: kind", 0, 2, (x, kind) -> x.offer(kind, 9, 9, 9, 9));
            for (int kind = 0; kind <= 2; kind++) {
                int k = kind;
                in.badNumber("offer: rent", 1, 50, (x, rent) -> x.offer(k, rent, 9, 9, 9));
                in.badNumber("offer: price", 1, 500, (x, price) -> x.offer(k, 9, 9, 9, price));
            }
            in.badNumber("offer: rise of rising", 0, 20, (x, rise) -> x.offer(1, 9, rise, 9, 9));
            in.badNumber("offer: rise of capped", 0, 20, (x, rise) -> x.offer(2, 9, rise, 9, 9));
            in.badNumber("offer: cap of capped", 1, 200, (x, cap) -> x.offer(2, 9, 9, cap, 9));
        }
    }

    private static void promise3RefusedEnds() {
        for (RefusalTest in : inAllSettings()) {
            in.badNumber("ends", 1, 40, RentOrBuy::ends);
        }
    }

    private static void promise4RefusedRent() {
        for (RefusalTest in : inAllSettings()) {
            in.badNumber("rent", 1, 40, RentOrBuy::rent);
        }
    }

    private static void promise5RefusedCost() {
        for (RefusalTest in : inAllSettings()) {
            int e = in.setting.made().count(0);
            in.badNumber("cost: plan", 1, e + 1, (x, plan) -> x.cost(plan, 1));
            in.badNumber("cost: end", 1, e, (x, end) -> x.cost(1, end));
        }
    }

    private static void promise6RefusedKnown() {
        for (RefusalTest in : inAllSettings()) {
            in.badNumber("known", 1, in.setting.made().count(0), RentOrBuy::known);
        }
    }

    private static void promise7RefusedRatio() {
        for (RefusalTest in : inAllSettings()) {
            int e = in.setting.made().count(0);
            in.badNumber("ratio: plan", 1, e + 1, (x, plan) -> x.ratio(plan, 0, 0));
            in.badNumber("ratio: end", 0, e, (x, end) -> x.ratio(1, end, 0));
            in.badNumber("ratio: part", 0, 1, (x, part) -> x.ratio(1, 1, part));
        }
    }

    private static void promise9RefusedShare() {
        for (RefusalTest in : inAllSettings()) {
            int e = in.setting.made().count(0);
            in.badNumber("share: of", 0, 1, (x, of) -> x.share(of, 1, 7));
            in.badNumber("share: plan", 1, e + 1, (x, plan) -> x.share(0, plan, 7));
            in.badNumber("share: end", 1, e, (x, end) -> x.share(1, end, 7));
            in.badNumber("share: v of a plan", 0, 9, (x, v) -> x.share(0, 1, v));
            in.badNumber("share: v of an end", 0, 9, (x, v) -> x.share(1, 1, v));
        }
    }

    private static void promise10RefusedMean() {
        for (RefusalTest in : inAllSettings()) {
            in.badNumber("mean: end", 1, in.setting.made().count(0), (x, end) -> x.mean(end, 0));
            in.badNumber("mean: part", 0, 1, (x, part) -> x.mean(1, part));
        }
        RefusalTest fresh = inAllSettings().get(0);
        fresh.refused("mean(1, 0) without shares", STATE, x -> x.mean(1, 0));
        fresh.refused("mean(20, 1) without shares", STATE, x -> x.mean(20, 1));
    }

    private static void promise11RefusedBound() {
        for (RefusalTest in : inAllSettings()) {
            in.badNumber("bound", 0, 1, RentOrBuy::bound);
        }
        RefusalTest fresh = inAllSettings().get(0);
        fresh.refused("bound(0) without shares", STATE, x -> x.bound(0));
        fresh.refused("bound(1) without shares", STATE, x -> x.bound(1));
        new RefusalTest(x -> x.share(1, 1, 9)).refused("bound(0) without shares of plans", STATE, x -> x.bound(0));
        new RefusalTest(x -> x.share(0, 1, 9)).refused("bound(1) without shares of ends", STATE, x -> x.bound(1));
    }

    private static void promise12RefusedGuess() {
        for (RefusalTest in : inAllSettings()) {
            in.badNumber("guess: g", 1, in.setting.made().count(0), (x, g) -> x.guess(g, 5));
            in.badNumber("guess: t", 1, 9, (x, t) -> x.guess(1, t));
        }
    }

    private static void promise13RefusedTrust() {
        for (RefusalTest in : inAllSettings()) {
            in.badNumber("trust: g", 1, in.setting.made().count(0), (x, g) -> x.trust(g, 5, 0, 0));
            in.badNumber("trust: t", 1, 9, (x, t) -> x.trust(1, t, 0, 0));
            in.badNumber("trust: what", 0, 1, (x, what) -> x.trust(1, 5, what, 0));
            in.badNumber("trust: part", 0, 1, (x, part) -> x.trust(1, 5, 0, part));
        }
    }

    private static void promise14RefusedList() {
        for (RefusalTest in : inAllSettings()) {
            in.badNumber("list", 1, 4, RentOrBuy::list);
        }
    }

    private static void promise15RefusedRequest() {
        for (RefusalTest in : inAllSettings()) {
            in.badNumber("request", 0, in.setting.made().count(2) - 1, RentOrBuy::request);
        }
        RefusalTest full = new RefusalTest(RefusalTest::greatest);
        for (int thing = 0; thing <= 3; thing++) {
            int asked = thing;
            full.refused("request of a full list", FULL, x -> x.request(asked));
        }
    }

    private static void promise16RefusedDrop() {
        inAllSettings().get(0).refused("drop of none", STATE, RentOrBuy::drop);
        new RefusalTest(x -> { greatest(x); x.list(4); }).refused("drop behind a list", STATE, RentOrBuy::drop);
    }

    private static void promise17RefusedServe() {
        for (RefusalTest in : inAllSettings()) {
            in.badNumber("serve", 0, 3, RentOrBuy::serve);
        }
    }

    private static void promise18RefusedAt() {
        for (RefusalTest in : inAllSettings()) {
            in.badNumber("at", 1, in.setting.made().count(2), RentOrBuy::at);
        }
    }

    private static void promise19RefusedCount() {
        for (RefusalTest in : inAllSettings()) {
            in.badNumber("count", 0, 3, RentOrBuy::count);
        }
    }

    /** Two refused calls in one, and many one after another, are as harmless as one. */
    private static void promise20ManyRefusedCalls() {
        for (RefusalTest in : inAllSettings()) {
            RentOrBuy x = in.setting.made();
            Due.is("offer", x.offer(MIN, MAX, MIN, MAX, MIN), BAD);
            Due.is("ends", x.ends(MIN), BAD);
            Due.is("rent", x.rent(MAX), BAD);
            Due.is("cost", x.cost(MIN, MAX), BAD);
            Due.is("known", x.known(MIN), BAD);
            Due.is("ratio", x.ratio(MAX, MIN, MAX), BAD);
            Due.is("share", x.share(MIN, MAX, MIN), BAD);
            Due.is("mean", x.mean(MAX, MIN), BAD);
            Due.is("bound", x.bound(MIN), BAD);
            Due.is("guess", x.guess(MIN, MAX), BAD);
            Due.is("trust", x.trust(MAX, MIN, MAX, MIN), BAD);
            Due.is("list", x.list(MAX), BAD);
            Due.is("request", x.request(MIN), BAD);
            Due.is("serve", x.serve(MAX), BAD);
            Due.is("at", x.at(MIN), BAD);
            Due.is("count", x.count(MAX), BAD);
            in.dueAsSpared("many refused calls", x);
        }
    }
}
