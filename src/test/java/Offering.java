import java.util.ArrayList;
import java.util.List;

/** An offer and its last end, with the rents that the document tells for it. */
record Offering(int e, int kind, int rent, int rise, int cap, int price) {
    private static final int[] LAST_ENDS = {1, 2, 9, 20, 40};
    private static final int[][] OFFERS = {
        {0, 1, 0, 0, 10}, {0, 50, 0, 0, 1}, {0, 3, 0, 0, 500}, {0, 2, 0, 0, 7},
        {1, 1, 1, 0, 30}, {1, 50, 20, 0, 500}, {1, 2, 0, 0, 9}, {1, 1, 20, 0, 1},
        {2, 2, 3, 7, 40}, {2, 50, 20, 200, 500}, {2, 9, 4, 5, 33}, {2, 1, 1, 200, 90},
    };

    /** Each offer by each last end. */
    static List<Offering> all() {
        List<Offering> all = new ArrayList<>();
        for (int[] o : OFFERS) {
            for (int e : LAST_ENDS) {
                all.add(new Offering(e, o[0], o[1], o[2], o[3], o[4]));
            }
        }
        return all;
    }

    void lead(RentOrBuy x) {
        x.ends(e);
        x.offer(kind, rent, rise, cap, price);
    }

    Renewed objects() {
        return new Renewed(this::lead);
    }

    int rentOf(int day) {
        int flat = rent;
        int rising = flat + rise * (day - 1);
        int capped = Math.min(rising, cap);
        return kind == 0 ? flat : kind == 1 ? rising : capped;
    }

    int rentsUpTo(int day) {
        int sum = 0;
        for (int d = 1; d <= day; d++) {
            sum += rentOf(d);
        }
        return sum;
    }

    int costOf(int plan, int end) {
        return plan <= end ? rentsUpTo(plan - 1) + price : rentsUpTo(end);
    }
}
