import java.util.ArrayDeque;
import java.util.ArrayList;
import java.util.HashMap;
import java.util.List;
import java.util.Map;
import java.util.Queue;

/** Requests for things of a list, and what the document says that they cost. Orders are texts: "021". */
record Requests(int n, List<Integer> things) {
    /** All runs of up to four requests, and some of 16. */
    static List<Requests> many() {
        List<Requests> many = new ArrayList<>();
        for (int n = 1; n <= 4; n++) {
            addAll(many, n, new ArrayList<>());
            for (int step = 1; step <= 7; step++) {
                List<Integer> things = new ArrayList<>();
                for (int i = 0; i < 16; i++) {
                    things.add((i * i * step + i / step) % n);
                }
                many.add(new Requests(n, things));
            }
        }
        return many;
    }

    private static void addAll(List<Requests> many, int n, List<Integer> head) {
        many.add(new Requests(n, head));
        for (int thing = 0; thing < n && head.size() < 4; thing++) {
            List<Integer> longer = new ArrayList<>(head);
            longer.add(thing);
            addAll(many, n, longer);
        }
    }

    void lead(RentOrBuy x) {
        x.list(n);
        for (int thing : things) {
            x.request(thing);
        }
    }

    String inOrder() {
        return "0123".substring(0, n);
    }

    private static int place(String order, int thing) {
        return order.indexOf('0' + thing) + 1;
    }

    /** The order with a thing taken out and put in at a place again. */
    private static String moved(String order, int thing, int place) {
        String rest = order.replace(String.valueOf(thing), "");
        return rest.substring(0, place - 1) + thing + rest.substring(place - 1);
    }

    int front(String order) {
        int sum = 0;
        String present = order;
        for (int thing : things) {
            sum += place(present, thing);
            present = moved(present, thing, 1);
        }
        return sum;
    }

    String frontOrder() {
        String present = inOrder();
        for (int thing : things) {
            present = moved(present, thing, 1);
        }
        return present;
    }

    int stays(String order) {
        int sum = 0;
        for (int thing : things) {
            sum += place(order, thing);
        }
        return sum;
    }

    int best() {
        Map<String, Integer> costs = Map.of(inOrder(), 0);
        for (int thing : things) {
            Map<String, Integer> next = new HashMap<>();
            withExchanges(costs).forEach((order, cost) -> {
                int place = place(order, thing);
                for (int ahead = 1; ahead <= place; ahead++) {
                    next.merge(moved(order, thing, ahead), cost + place, Math::min);
                }
            });
            costs = next;
        }
        return costs.values().stream().min(Integer::compare).orElse(0);
    }

    /** What each order costs if any two neighbours may change places, again and again, for 1 each. */
    private static Map<String, Integer> withExchanges(Map<String, Integer> costs) {
        Map<String, Integer> least = new HashMap<>(costs);
        Queue<String> waiting = new ArrayDeque<>(costs.keySet());
        while (!waiting.isEmpty()) {
            String order = waiting.remove();
            for (int i = 0; i + 1 < order.length(); i++) {
                String other = order.substring(0, i) + order.charAt(i + 1) + order.charAt(i) + order.substring(i + 2);
                int cost = least.get(order) + 1;
                if (cost < least.getOrDefault(other, Integer.MAX_VALUE)) {
                    least.put(other, cost);
                    waiting.add(other);
                }
            }
        }
        return least;
    }
}
