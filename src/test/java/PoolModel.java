import java.util.ArrayList;
import java.util.Comparator;
import java.util.List;

/**
 * The document told another way: under each rule a creditor's units can be put in order beforehand, so the whole
 * sharing is one sorted list of units, and every question counts in a prefix of it.
 */
final class PoolModel {
    /** A creditor's nth unit, n from 1. */
    private record Unit(int creditor, int claim, int n) {
    }

    private final List<int[]> book = new ArrayList<>();
    private final int[] rules = new int[4];
    private int estate = 0;

    int add(int claim, int rank) {
        if (claim < 0 || claim > 150) {
            return -1;
        }
        if (rank < 0 || rank > 3) {
            return -2;
        }
        if (book.size() == 8) {
            return -3;
        }
        book.add(new int[] {claim, rank});
        return book.size() - 1;
    }

    int remove(int creditor) {
        if (bad(creditor)) {
            return -1;
        }
        book.remove(creditor);
        return book.size();
    }

    int change(int creditor, int claim) {
        return bad(creditor) ? -1 : claim < 0 || claim > 150 ? -2 : swap(book.get(creditor), 0, claim);
    }

    int move(int creditor, int rank) {
        return bad(creditor) ? -1 : rank < 0 || rank > 3 ? -2 : swap(book.get(creditor), 1, rank);
    }

    int rule(int rank, int rule) {
        return rank < 0 || rank > 3 ? -1 : rule < 0 || rule > 3 ? -2 : swap(rules, rank, rule);
    }

    int estate(int delta) {
        long sum = (long) estate + delta;
        if (sum < 0 || sum > 1500) {
            return -1;
        }
        estate = (int) sum;
        return estate;
    }

    int creditors() {
        return book.size();
    }

    int claimOf(int creditor) {
        return bad(creditor) ? -1 : book.get(creditor)[0];
    }

    int share(int creditor) {
        return bad(creditor) ? -1 : count(order(rules), estate, creditor);
    }

    int shareOf(int creditor, int amount) {
        return bad(creditor) ? -1 : amount < 0 || amount > 1500 ? -2 : count(order(rules), amount, creditor);
    }

    int shareUnder(int creditor, int rule) {
        if (bad(creditor)) {
            return -1;
        }
        if (rule < 0 || rule > 3) {
            return -2;
        }
        int[] asked = rules.clone();
        asked[book.get(creditor)[1]] = rule;
        return count(order(asked), estate, creditor);
    }

    int leastEstate(int creditor, int x) {
        if (bad(creditor)) {
            return -1;
        }
        if (x < 0 || x > 150) {
            return -2;
        }
        List<Unit> order = order(rules);
        for (int place = 0; place < order.size(); place++) {
            if (x > 0 && order.get(place).creditor() == creditor && order.get(place).n() == x) {
                return place + 1;
            }
        }
        return x == 0 ? 0 : -3;
    }

    int claims(int rank) {
        return rank < 0 || rank > 3 ? -1 : book.stream().filter(c -> c[1] == rank).mapToInt(c -> c[0]).sum();
    }

    int paid(int rank) {
        if (rank < 0 || rank > 3) {
            return -1;
        }
        return (int) order(rules).stream().limit(estate).filter(u -> book.get(u.creditor())[1] == rank).count();
    }

    int left() {
        return Integer.max(0, estate - order(rules).size());
    }

    int next() {
        List<Unit> order = order(rules);
        return estate < order.size() ? order.get(estate).creditor() : -1;
    }

    int unpaid() {
        return (int) order(rules).stream().skip(estate).map(Unit::creditor).distinct().count();
    }

    int worst() {
        int worst = 0;
        for (int creditor = 0; creditor < book.size(); creditor++) {
            worst = Integer.max(worst, claimOf(creditor) - share(creditor));
        }
        return worst;
    }

    private boolean bad(int creditor) {
        return creditor < 0 || creditor >= book.size();
    }

    private static int swap(int[] cells, int at, int value) {
        int before = cells[at];
        cells[at] = value;
        return before;
    }

    private static int count(List<Unit> order, int amount, int creditor) {
        return (int) order.stream().limit(amount).filter(unit -> unit.creditor() == creditor).count();
    }

    private List<Unit> order(int[] underRules) {
        List<Unit> all = new ArrayList<>();
        for (int rank = 0; rank < 4; rank++) {
            List<Unit> units = new ArrayList<>();
            for (int creditor = 0; creditor < book.size(); creditor++) {
                int[] entry = book.get(creditor);
                for (int n = 1; entry[1] == rank && n <= entry[0]; n++) {
                    units.add(new Unit(creditor, entry[0], n));
                }
            }
            all.addAll(underRules[rank] == 3 ? halves(units) : sorted(units, underRules[rank]));
        }
        return all;
    }

    private static List<Unit> halves(List<Unit> units) {
        List<Unit> lower = new ArrayList<>(units);
        lower.removeIf(unit -> 2 * (unit.n() - 1) >= unit.claim());
        List<Unit> order = new ArrayList<>(sorted(lower, 0).subList(0, (units.size() + 1) / 2));
        List<Unit> rest = new ArrayList<>(units);
        rest.removeAll(order);
        order.addAll(sorted(rest, 1));
        return order;
    }

    private static List<Unit> sorted(List<Unit> units, int rule) {
        Comparator<Unit> byRule = switch (rule) {
            case 0 -> Comparator.comparingInt(Unit::n);
            case 1 -> Comparator.comparingInt(unit -> unit.n() - unit.claim());
            default -> (a, b) -> Long.compare((long) b.claim() * a.n(), (long) a.claim() * b.n());
        };
        List<Unit> order = new ArrayList<>(units);
        order.sort(byRule.thenComparingInt(Unit::creditor).thenComparingInt(Unit::n));
        return order;
    }
}
