import java.util.NoSuchElementException;

/** Promises 38 to 43: ranks, sums, shares and the check of the state. */
final class SumTests {
    static void run(Check check) {
        check.test("promise 38: sheetByWear", SumTests::sheetByWear);
        check.test("promise 38: sheetByWear refuses", SumTests::sheetByWearRefusals);
        check.test("promise 39: foldCount", SumTests::foldCount);
        check.test("promise 40: usedPaste", SumTests::usedPaste);
        check.test("promise 41: meanWear", SumTests::meanWear);
        check.test("promise 41: meanWear refuses", SumTests::meanWearRefusals);
        check.test("promise 42: coveredShare", SumTests::coveredShare);
        check.test("promise 43: isConsistent", SumTests::isConsistent);
    }

    private static void ranks(MapHall hall, int... due) {
        for (int rank = 0; rank < due.length; rank++) {
            Check.same(due[rank], hall.sheetByWear(rank));
        }
    }

    private static void sheetByWear() {
        MapHall hall = TableTests.withKinds("slcs");
        ranks(hall, 0, 1, 2, 3);
        SheetTests.addCreases(hall, 2, "v");
        SheetTests.addCreases(hall, 3, "vv");
        ranks(hall, 3, 2, 0, 1);
        hall.fold(2);
        ranks(hall, 2, 3, 0, 1);
        hall.fold(3);
        ranks(hall, 3, 2, 0, 1);
        hall.unfold(2);
        hall.fold(2);
        // The wear is now the same: sheet 3 has more creases.
        ranks(hall, 3, 2, 0, 1);
        hall.unfold(2);
        hall.addCrease(2, 'm');
        ranks(hall, 2, 3, 0, 1);
        ranks(TableTests.withKinds("sssssssss"), 0, 1, 2, 3, 4, 5, 6, 7, 8);
    }

    private static void sheetByWearRefusals() {
        MapHall hall = TableTests.withKinds("sl");
        for (int bad : new int[] {-1, 2, 9, Integer.MIN_VALUE, Integer.MAX_VALUE}) {
            Check.refuses(NoSuchElementException.class, () -> hall.sheetByWear(bad));
        }
        Check.refuses(NoSuchElementException.class, () -> new MapHall().sheetByWear(0));
    }

    private static void foldCount() {
        MapHall hall = SheetTests.withSheet("vv");
        Check.same(0, hall.foldCount());
        for (int times = 1; times <= 6; times++) {
            hall.fold(0);
            Check.refuses(IllegalStateException.class, () -> hall.fold(0));
            Check.same(times, hall.foldCount());
            hall.unfold(0);
        }
        hall.undo();
        hall.undo();
        Check.same(5, hall.foldCount());
    }

    private static void usedPaste() {
        MapHall hall = SheetTests.withSheet("vv");
        hall.addPaste(20);
        Check.same(0, hall.usedPaste());
        for (int times = 1; times <= 3; times++) {
            hall.fold(0);
            hall.unfold(0);
            hall.mend(0);
            Check.same(2 * times, hall.usedPaste());
        }
        hall.undo();
        Check.same(4, hall.usedPaste());
        Check.same(16, hall.paste());
    }

    private static void meanWear() {
        MapHall hall = SheetTests.withSheet("v");
        Check.same(0.0, hall.meanWear());
        hall.fold(0);
        Check.same(1.0, hall.meanWear());
        hall.addSheet(0, 0, 0, 0, 's');
        Check.same(0.5, hall.meanWear());
        hall.addSheet(0, 0, 0, 0, 's');
        Check.same(1.0 / 3.0, hall.meanWear());
        for (int sheet = 3; sheet < 9; sheet++) {
            hall.addSheet(0, 0, 0, 0, 's');
        }
        Check.same(1.0 / 9.0, hall.meanWear());
    }

    private static void meanWearRefusals() {
        MapHall hall = new MapHall();
        Check.refuses(ArithmeticException.class, hall::meanWear);
        hall.addSheet(0, 0, 0, 0, 's');
        hall.undo();
        Check.refuses(ArithmeticException.class, hall::meanWear);
    }

    private static void coveredShare() {
        MapHall hall = TableTests.withKinds("sssssssss");
        for (int sheet = 0; sheet < 9; sheet++) {
            Check.same((float) sheet / 9.0f, hall.coveredShare());
            hall.put(sheet, 8 - sheet, 0);
        }
        Check.same(1.0f, hall.coveredShare());
    }

    private static void isConsistent() {
        Check.same(true, new MapHall().isConsistent());
        for (String table : new String[] {"sscslcc.s", "ccccccccc", "s.l.c.s.l", "lsc...lsc"}) {
            MapHall hall = TableTests.laid(table);
            Check.same(true, hall.isConsistent());
            for (int sheet = 0; sheet < hall.sheetCount(); sheet++) {
                SheetTests.addCreases(hall, sheet, "vmmvvm".substring(sheet % 7));
            }
            Check.same(true, hall.isConsistent());
        }
    }
}
