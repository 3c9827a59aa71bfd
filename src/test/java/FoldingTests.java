import java.util.ArrayList;
import java.util.List;

/** Promises 28 to 30: the possible orders of the panels. */
final class FoldingTests {
    static void run(Check check) {
        check.test("promises 28 and 29: foldings known by hand", FoldingTests::knownFoldings);
        check.test("promises 28 and 29: foldings of every row of creases", FoldingTests::allRows);
        check.test("promises 28 and 29: foldings refuse", FoldingTests::foldingsRefusals);
        check.test("promise 30: panels known by hand", FoldingTests::knownTops);
        check.test("promise 30: canBeOnTop for every row of creases", FoldingTests::allTops);
        check.test("promise 30: canBeOnTop refuses", FoldingTests::canBeOnTopRefusals);
        check.test("promises 28 to 30: folded, torn and laid sheets count alike", FoldingTests::anyState);
    }

    private static void bothFoldings(int due, String creases) {
        MapHall hall = SheetTests.withSheet(creases);
        Check.same(due, hall.foldings(0));
        Check.same(due, hall.foldingsByPermutations(0));
    }

    private static void knownFoldings() {
        bothFoldings(1, "");
        bothFoldings(1, "v");
        bothFoldings(1, "m");
        bothFoldings(2, "vv");
        bothFoldings(1, "vm");
        bothFoldings(2, "vmm");
        bothFoldings(1, "vmvmvm");
        bothFoldings(6, "vvvvvv");
        bothFoldings(6, "mmmmmm");
    }

    private static void allRows() {
        for (String creases : rows()) {
            bothFoldings(Orders.possible(creases).size(), creases);
        }
    }

    private static void foldingsRefusals() {
        MapHall hall = SheetTests.withSheet("v");
        for (int bad : new int[] {-1, 1, Integer.MIN_VALUE, Integer.MAX_VALUE}) {
            Check.refuses(IndexOutOfBoundsException.class, () -> hall.foldings(bad));
            Check.refuses(IndexOutOfBoundsException.class, () -> hall.foldingsByPermutations(bad));
        }
    }

    private static void knownTops() {
        MapHall flat = SheetTests.withSheet("");
        Check.same(true, flat.canBeOnTop(0, 0));
        MapHall valley = SheetTests.withSheet("v");
        Check.same(false, valley.canBeOnTop(0, 0));
        Check.same(true, valley.canBeOnTop(0, 1));
        MapHall mountain = SheetTests.withSheet("m");
        Check.same(true, mountain.canBeOnTop(0, 0));
        Check.same(false, mountain.canBeOnTop(0, 1));
    }

    private static void allTops() {
        for (String creases : rows()) {
            MapHall hall = SheetTests.withSheet(creases);
            for (int panel = 0; panel <= creases.length(); panel++) {
                int top = panel;
                boolean due = Orders.possible(creases).stream()
                        .anyMatch(order -> order.get(creases.length()) == top);
                Check.same(due, hall.canBeOnTop(0, panel));
            }
        }
    }

    private static void canBeOnTopRefusals() {
        MapHall hall = SheetTests.withSheet("vm");
        for (int bad : new int[] {-1, 3, 7, Integer.MIN_VALUE, Integer.MAX_VALUE}) {
            Check.refuses(IndexOutOfBoundsException.class, () -> hall.canBeOnTop(0, bad));
            Check.refuses(IndexOutOfBoundsException.class, () -> hall.canBeOnTop(bad == 3 ? 1 : bad, 0));
        }
    }

    private static void anyState() {
        MapHall hall = SheetTests.withSheet("vmm");
        hall.put(0, 0, 3);
        Check.same(2, hall.foldings(0));
        hall.take(0);
        hall.fold(0);
        hall.unfold(0);
        hall.fold(0);
        Check.same(true, hall.isTorn(0));
        Check.same(2, hall.foldings(0));
        Check.same(2, hall.foldingsByPermutations(0));
        Check.same(false, hall.canBeOnTop(0, 0));
    }

    /** Every row of 0 to 6 creases. */
    private static List<String> rows() {
        List<String> rows = new ArrayList<>(List.of(""));
        for (int index = 0; index < rows.size(); index++) {
            if (rows.get(index).length() < 6) {
                rows.add(rows.get(index) + "v");
                rows.add(rows.get(index) + "m");
            }
        }
        return rows;
    }
}
