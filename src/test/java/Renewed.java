import java.util.function.Consumer;

/** Objects in one state: a new one is led there before the 512 calls that are promised are used up. */
final class Renewed {
    private static final int MOST_ASKED = 256;

    private final Consumer<RentOrBuy> lead;
    private RentOrBuy present;
    private int asked = MOST_ASKED;

    /** The way to the state takes 256 calls at most. */
    Renewed(Consumer<RentOrBuy> lead) {
        this.lead = lead;
    }

    /** For one call that changes nothing. */
    RentOrBuy x() {
        if (asked == MOST_ASKED) {
            present = new RentOrBuy();
            lead.accept(present);
            asked = 0;
        }
        asked++;
        return present;
    }
}
