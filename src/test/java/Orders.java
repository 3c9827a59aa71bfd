import java.util.ArrayList;
import java.util.HashMap;
import java.util.List;
import java.util.Map;

/** The possible orders of panels, from the bottom to the top, by the document's words alone. */
final class Orders {
    private static final Map<String, List<List<Integer>>> KNOWN = new HashMap<>();

    static List<List<Integer>> possible(String creases) {
        return KNOWN.computeIfAbsent(creases, Orders::find);
    }

    private static List<List<Integer>> find(String creases) {
        List<List<Integer>> found = new ArrayList<>();
        for (List<Integer> order : permutations(creases.length() + 1)) {
            if (isPossible(creases, order)) {
                found.add(order);
            }
        }
        return found;
    }

    private static List<List<Integer>> permutations(int size) {
        List<List<Integer>> all = new ArrayList<>();
        if (size == 0) {
            all.add(List.of());
            return all;
        }
        for (List<Integer> shorter : permutations(size - 1)) {
            for (int place = 0; place < size; place++) {
                List<Integer> longer = new ArrayList<>(shorter);
                longer.add(place, size - 1);
                all.add(longer);
            }
        }
        return all;
    }

    private static boolean isPossible(String creases, List<Integer> order) {
        for (int i = 0; i < creases.length(); i++) {
            boolean valley = creases.charAt(i) == 'v';
            boolean even = i % 2 == 0;
            boolean above = order.indexOf(i + 1) > order.indexOf(i);
            if (above != (valley && even || !valley && !even)) {
                return false;
            }
            for (int j = 0; j < creases.length(); j++) {
                if (i != j && i % 2 == j % 2 && cross(order, i, j)) {
                    return false;
                }
            }
        }
        return true;
    }

    private static boolean cross(List<Integer> order, int i, int j) {
        int one = order.indexOf(i);
        int other = order.indexOf(i + 1);
        int between = 0;
        for (int panel = j; panel <= j + 1; panel++) {
            int place = order.indexOf(panel);
            if (place > Math.min(one, other) && place < Math.max(one, other)) {
                between++;
            }
        }
        return between == 1;
    }
}
