import java.util.ArrayList;
import java.util.Collections;
import java.util.List;

/** The document read a second time, over the Java library, to compare the class with. */
final class Model {
    static final List<List<Integer>> LISTS = allLists();

    private final List<int[]> conditions = new ArrayList<>();
    private List<Integer> stage = new ArrayList<>();
    private List<List<Integer>> failing = LISTS;

    private static List<List<Integer>> allLists() {
        List<List<Integer>> all = new ArrayList<>();
        all.add(new ArrayList<>());
        for (int at = 0; at < all.size(); at++) {
            List<Integer> list = all.get(at);
            for (int x = 3; x >= 0 && list.size() < 6; x--) {
                List<Integer> longer = new ArrayList<>(list);
                longer.add(x);
                all.add(longer);
            }
        }
        // Made out of order on purpose: the order is that of the comparison alone.
        all.sort(Model::compare);
        return all;
    }

    static int compare(List<Integer> p, List<Integer> q) {
        if (p.size() != q.size()) {
            return p.size() - q.size();
        }
        for (int i = 0; i < p.size(); i++) {
            if (!p.get(i).equals(q.get(i))) {
                return p.get(i) - q.get(i);
            }
        }
        return 0;
    }

    static boolean meets(List<Integer> list, int kind, int a, int b) {
        int times = Collections.frequency(list, a);
        boolean rises = false;
        boolean pair = false;
        int sum = 0;
        for (int i = 0; i < list.size(); i++) {
            sum += list.get(i);
            if (i + 1 < list.size()) {
                pair |= list.get(i) == a && list.get(i + 1) == b;
                rises |= list.get(i) < list.get(i + 1);
            }
        }
        return switch (kind) {
            case 0 -> sum % a == b;
            case 1 -> times >= b;
            case 2 -> times <= b;
            case 3 -> pair;
            case 4 -> !pair;
            case 5 -> !list.isEmpty() && list.get(0) >= a;
            case 6 -> !list.isEmpty() && list.get(list.size() - 1) >= a;
            case 7 -> list.size() >= a;
            case 8 -> rises;
            case 9 -> times % 2 == b;
            default -> throw new IllegalArgumentException("kind " + kind);
        };
    }

    private static boolean in(int x, int from, int to) {
        return from <= x && x <= to;
    }

    static boolean numbersAsSaid(int kind, int a, int b) {
        return switch (kind) {
            case 0 -> in(a, 2, 4) && in(b, 0, a - 1);
            case 1 -> in(a, 0, 3) && in(b, 1, 3);
            case 2 -> in(a, 0, 3) && in(b, 0, 2);
            case 3, 4 -> in(a, 0, 3) && in(b, 0, 3);
            case 5, 6, 7 -> in(a, 0, 3);
            case 8 -> true;
            case 9 -> in(a, 0, 3) && in(b, 0, 1);
            default -> throw new IllegalArgumentException("kind " + kind);
        };
    }

    private void conditionsChanged() {
        failing = new ArrayList<>(LISTS);
        for (int[] c : conditions) {
            failing.removeIf(list -> !meets(list, c[0], c[1], c[2]));
        }
    }

    int condition(int kind, int a, int b) {
        if (!in(kind, 0, 9)) {
            return -1;
        }
        if (!numbersAsSaid(kind, a, b)) {
            return -2;
        }
        if (conditions.size() == 3) {
            return -3;
        }
        conditions.add(new int[] {kind, a, b});
        conditionsChanged();
        return conditions.size();
    }

    int drop() {
        if (conditions.isEmpty()) {
            return -4;
        }
        conditions.remove(conditions.size() - 1);
        conditionsChanged();
        return conditions.size();
    }

    int push(int x) {
        if (!in(x, 0, 3)) {
            return -2;
        }
        if (stage.size() == 6) {
            return -3;
        }
        stage.add(x);
        return stage.size();
    }

    void empty() {
        stage = new ArrayList<>();
    }

    int load(int n) {
        if (!in(n, 0, failing.size() - 1)) {
            return -4;
        }
        stage = new ArrayList<>(failing.get(n));
        return stage.size();
    }

    int failing() {
        return failing.size();
    }

    int failingOf(int length) {
        return (int) failing.stream().filter(list -> list.size() == length).count();
    }

    boolean fails() {
        return failing.contains(stage);
    }

    int rank() {
        return (int) failing.stream().filter(list -> compare(list, stage) < 0).count();
    }

    int extending() {
        return (int) failing.stream()
            .filter(list -> list.size() >= stage.size()
                && list.subList(0, stage.size()).equals(stage))
            .count();
    }

    int leastLength() {
        return failing.isEmpty() ? -4 : failing.get(0).size();
    }

    int least(int i) {
        return failing.isEmpty() || !in(i, 0, failing.get(0).size() - 1) ? -4 : failing.get(0).get(i);
    }

    int element(int i) {
        return in(i, 0, stage.size() - 1) ? stage.get(i) : -4;
    }
}
