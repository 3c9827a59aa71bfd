import java.util.NoSuchElementException;

/** Promises 1 to 6, 9 to 17 and 23: a new object, sheets, creases, folding, paste. */
final class SheetTests {
    private static final int[] NO_SHEET = {-1, 1, 9, Integer.MIN_VALUE, Integer.MAX_VALUE};

    static void run(Check check) {
        check.test("promise 1: a new hall is empty", SheetTests::newHall);
        check.test("promise 2: addSheet answers the index", SheetTests::addSheetIndices);
        check.test("promise 2: addSheet takes codes 0 to 9 and three kinds", SheetTests::addSheetEdges);
        check.test("promise 2: addSheet refuses a tenth sheet", SheetTests::addSheetTenth);
        check.test("promise 3: addCrease adds at the end", SheetTests::addCreaseOrder);
        check.test("promise 3: addCrease refuses", SheetTests::addCreaseRefusals);
        check.test("promise 3: a sheet on the table or torn gets creases", SheetTests::addCreaseDetails);
        check.test("promise 4: fold adds the creases to the wear, up to 9", SheetTests::foldWear);
        check.test("promise 4: fold refuses", SheetTests::foldRefusals);
        check.test("promise 5: unfold answers the flat sheets", SheetTests::unfoldFlat);
        check.test("promise 5: unfold refuses", SheetTests::unfoldRefusals);
        check.test("promise 6: mend takes paste", SheetTests::mendPaste);
        check.test("promise 6: mend refuses", SheetTests::mendRefusals);
        check.test("promise 6: a sheet on the table is mended", SheetTests::mendOnTable);
        check.test("promise 9: addPaste answers the paste", SheetTests::addPasteAmounts);
        check.test("promise 9: addPaste refuses", SheetTests::addPasteRefusals);
        check.test("promise 10: sheetCount", SheetTests::sheetCount);
        check.test("promise 11: kind", SheetTests::kind);
        check.test("promise 12: border of a sheet that is not turned", SheetTests::border);
        check.test("promise 13: wear", SheetTests::wear);
        check.test("promise 14: isTorn from 5 on", SheetTests::isTorn);
        check.test("promise 15: isFolded", SheetTests::isFolded);
        check.test("promise 16: creaseCount", SheetTests::creaseCount);
        check.test("promise 17: crease", SheetTests::crease);
        check.test("promise 23: paste", SheetTests::paste);
    }

    /** A hall with one land whose borders are all 0. */
    static MapHall withSheet(String creases) {
        MapHall hall = new MapHall();
        hall.addSheet(0, 0, 0, 0, 'l');
        addCreases(hall, 0, creases);
        return hall;
    }

    static void addCreases(MapHall hall, int sheet, String creases) {
        for (char crease : creases.toCharArray()) {
            hall.addCrease(sheet, crease);
        }
    }

    private static void newHall() {
        MapHall hall = new MapHall();
        Check.same(0, hall.sheetCount());
        Check.same(9, hall.emptyCells());
        Check.same(0, hall.paste());
        Check.same(0, hall.usedPaste());
        Check.same(0, hall.foldCount());
        Check.same(0, hall.undoCount());
        Check.same(0, hall.points());
        Check.same(0, hall.groups());
        for (int cell = 0; cell < 9; cell++) {
            int empty = cell;
            Check.refuses(NoSuchElementException.class, () -> hall.sheetIn(empty));
        }
        Check.refuses(IndexOutOfBoundsException.class, () -> hall.outputChar(0));
        Check.refuses(NoSuchElementException.class, hall::errorPosition);
        Check.refuses(NoSuchElementException.class, hall::failedCommand);
        Check.refuses(IllegalStateException.class, hall::restore);
        Check.same(1, hall.feed('x'));
    }

    private static void addSheetIndices() {
        MapHall hall = new MapHall();
        for (int sheet = 0; sheet < 9; sheet++) {
            Check.same(sheet, hall.addSheet(sheet, 0, 0, 0, 'l'));
            Check.same(sheet, hall.border(sheet, 0));
            Check.same(0, hall.creaseCount(sheet));
            Check.same(0, hall.wear(sheet));
            Check.same(false, hall.isFolded(sheet));
            int added = sheet;
            Check.refuses(NoSuchElementException.class, () -> hall.cellOf(added));
        }
    }

    private static void addSheetEdges() {
        MapHall hall = new MapHall();
        hall.addSheet(0, 9, 0, 9, 's');
        hall.addSheet(9, 0, 9, 0, 'l');
        hall.addSheet(1, 2, 3, 4, 'c');
        for (int bad : new int[] {-1, 10, Integer.MIN_VALUE, Integer.MAX_VALUE}) {
            Check.refuses(IllegalArgumentException.class, () -> hall.addSheet(bad, 0, 0, 0, 's'));
            Check.refuses(IllegalArgumentException.class, () -> hall.addSheet(0, bad, 0, 0, 's'));
            Check.refuses(IllegalArgumentException.class, () -> hall.addSheet(0, 0, bad, 0, 's'));
            Check.refuses(IllegalArgumentException.class, () -> hall.addSheet(0, 0, 0, bad, 's'));
        }
        for (char bad : new char[] {'S', 'L', 'C', 'a', ' ', 0, 65535}) {
            Check.refuses(IllegalArgumentException.class, () -> hall.addSheet(0, 0, 0, 0, bad));
        }
        Check.same(3, hall.sheetCount());
        Check.same(3, hall.undoCount());
    }

    private static void addSheetTenth() {
        MapHall hall = new MapHall();
        for (int sheet = 0; sheet < 9; sheet++) {
            hall.addSheet(0, 0, 0, 0, 's');
        }
        Check.refuses(IllegalStateException.class, () -> hall.addSheet(0, 0, 0, 0, 's'));
        Check.refuses(IllegalArgumentException.class, () -> hall.addSheet(0, 0, 0, 10, 's'));
        Check.refuses(IllegalArgumentException.class, () -> hall.addSheet(0, 0, 0, 0, 'x'));
        Check.same(9, hall.sheetCount());
    }

    private static void addCreaseOrder() {
        MapHall hall = withSheet("");
        String creases = "vmmvvm";
        for (int index = 0; index < 6; index++) {
            Check.same(index + 1, hall.addCrease(0, creases.charAt(index)));
        }
        for (int index = 0; index < 6; index++) {
            Check.same(creases.charAt(index), hall.crease(0, index));
        }
    }

    private static void addCreaseRefusals() {
        MapHall hall = withSheet("v");
        for (int bad : NO_SHEET) {
            Check.refuses(IndexOutOfBoundsException.class, () -> hall.addCrease(bad, 'v'));
            Check.refuses(IndexOutOfBoundsException.class, () -> hall.addCrease(bad, 'x'));
        }
        for (char bad : new char[] {'V', 'M', 'x', ' ', 0, 65535}) {
            Check.refuses(IllegalArgumentException.class, () -> hall.addCrease(0, bad));
        }
        hall.fold(0);
        Check.refuses(IllegalStateException.class, () -> hall.addCrease(0, 'm'));
        Check.refuses(IllegalArgumentException.class, () -> hall.addCrease(0, 'x'));
        hall.unfold(0);
        addCreases(hall, 0, "mmmmm");
        Check.refuses(IllegalStateException.class, () -> hall.addCrease(0, 'm'));
        Check.refuses(IllegalArgumentException.class, () -> hall.addCrease(0, 'x'));
        Check.same(6, hall.creaseCount(0));
    }

    private static void addCreaseDetails() {
        MapHall hall = withSheet("");
        hall.put(0, 4, 0);
        Check.same(1, hall.addCrease(0, 'v'));
        hall.take(4);
        addCreases(hall, 0, "vvvv");
        hall.fold(0);
        hall.unfold(0);
        Check.same(true, hall.isTorn(0));
        Check.same(6, hall.addCrease(0, 'v'));
    }

    private static void foldWear() {
        MapHall hall = withSheet("vm");
        hall.addSheet(0, 0, 0, 0, 's');
        addCreases(hall, 1, "vvv");
        for (int due : new int[] {2, 4, 6, 8, 9, 9}) {
            Check.same(due, hall.fold(0));
            Check.same(due, hall.wear(0));
            Check.same(true, hall.isFolded(0));
            hall.unfold(0);
        }
        Check.same(3, hall.fold(1));
        Check.same(3, hall.wear(1));
    }

    private static void foldRefusals() {
        MapHall hall = withSheet("");
        for (int bad : NO_SHEET) {
            Check.refuses(IndexOutOfBoundsException.class, () -> hall.fold(bad));
        }
        Check.refuses(IllegalStateException.class, () -> hall.fold(0));
        hall.addCrease(0, 'v');
        hall.put(0, 0, 0);
        Check.refuses(IllegalStateException.class, () -> hall.fold(0));
        hall.take(0);
        Check.same(1, hall.fold(0));
        Check.refuses(IllegalStateException.class, () -> hall.fold(0));
        Check.same(1, hall.wear(0));
        Check.same(1, hall.foldCount());
    }

    private static void unfoldFlat() {
        MapHall hall = withSheet("v");
        hall.addSheet(0, 0, 0, 0, 's');
        hall.addSheet(0, 0, 0, 0, 's');
        hall.addCrease(2, 'v');
        hall.put(1, 3, 0);
        hall.fold(0);
        hall.fold(2);
        Check.same(2, hall.unfold(2));
        Check.same(false, hall.isFolded(2));
        Check.same(true, hall.isFolded(0));
        Check.same(3, hall.unfold(0));
        Check.same(1, hall.wear(0));
    }

    private static void unfoldRefusals() {
        MapHall hall = withSheet("v");
        for (int bad : NO_SHEET) {
            Check.refuses(IndexOutOfBoundsException.class, () -> hall.unfold(bad));
        }
        Check.refuses(IllegalStateException.class, () -> hall.unfold(0));
        hall.fold(0);
        hall.unfold(0);
        Check.refuses(IllegalStateException.class, () -> hall.unfold(0));
    }

    private static void mendPaste() {
        MapHall hall = withSheet("vvv");
        hall.addPaste(5);
        hall.fold(0);
        hall.unfold(0);
        Check.same(2, hall.mend(0));
        Check.same(0, hall.wear(0));
        Check.same(2, hall.paste());
        Check.same(3, hall.usedPaste());
        hall.addPaste(1);
        hall.fold(0);
        hall.unfold(0);
        Check.same(0, hall.mend(0));
    }

    private static void mendRefusals() {
        MapHall hall = withSheet("vvv");
        for (int bad : NO_SHEET) {
            Check.refuses(IndexOutOfBoundsException.class, () -> hall.mend(bad));
        }
        Check.refuses(IllegalStateException.class, () -> hall.mend(0));
        hall.addPaste(2);
        hall.fold(0);
        Check.refuses(IllegalStateException.class, () -> hall.mend(0));
        hall.unfold(0);
        Check.refuses(UnsupportedOperationException.class, () -> hall.mend(0));
        Check.same(2, hall.paste());
        Check.same(3, hall.wear(0));
        Check.same(0, hall.usedPaste());
        hall.addPaste(1);
        Check.same(0, hall.mend(0));
    }

    private static void mendOnTable() {
        MapHall hall = withSheet("v");
        hall.addPaste(1);
        hall.fold(0);
        hall.unfold(0);
        hall.put(0, 8, 3);
        Check.same(0, hall.mend(0));
        Check.same(8, hall.cellOf(0));
    }

    private static void addPasteAmounts() {
        MapHall hall = new MapHall();
        Check.same(1, hall.addPaste(1));
        Check.same(21, hall.addPaste(20));
        Check.same(41, hall.addPaste(20));
        Check.same(50, hall.addPaste(9));
    }

    private static void addPasteRefusals() {
        MapHall hall = new MapHall();
        for (int bad : new int[] {0, -1, 21, Integer.MIN_VALUE, Integer.MAX_VALUE}) {
            Check.refuses(IllegalArgumentException.class, () -> hall.addPaste(bad));
        }
        hall.addPaste(20);
        hall.addPaste(20);
        Check.refuses(IllegalStateException.class, () -> hall.addPaste(11));
        Check.refuses(IllegalArgumentException.class, () -> hall.addPaste(21));
        Check.same(40, hall.paste());
        hall.addPaste(10);
        Check.refuses(IllegalStateException.class, () -> hall.addPaste(1));
        Check.same(50, hall.paste());
    }

    private static void sheetCount() {
        MapHall hall = new MapHall();
        for (int sheet = 0; sheet < 9; sheet++) {
            Check.same(sheet, hall.sheetCount());
            hall.addSheet(0, 0, 0, 0, 'c');
        }
        Check.same(9, hall.sheetCount());
    }

    private static void kind() {
        MapHall hall = withSheet("");
        hall.addSheet(0, 0, 0, 0, 's');
        hall.addSheet(0, 0, 0, 0, 'c');
        Check.same('l', hall.kind(0));
        Check.same('s', hall.kind(1));
        Check.same('c', hall.kind(2));
        Check.refuses(IndexOutOfBoundsException.class, () -> hall.kind(3));
        Check.refuses(IndexOutOfBoundsException.class, () -> hall.kind(-1));
    }

    private static void border() {
        MapHall hall = new MapHall();
        hall.addSheet(4, 7, 0, 9, 's');
        hall.put(0, 4, 1);
        Check.same(4, hall.border(0, 0));
        Check.same(7, hall.border(0, 1));
        Check.same(0, hall.border(0, 2));
        Check.same(9, hall.border(0, 3));
        Check.refuses(IllegalArgumentException.class, () -> hall.border(0, -1));
        Check.refuses(IllegalArgumentException.class, () -> hall.border(0, 4));
        for (int bad : NO_SHEET) {
            Check.refuses(IndexOutOfBoundsException.class, () -> hall.border(bad, 0));
            Check.refuses(IndexOutOfBoundsException.class, () -> hall.border(bad, 4));
        }
    }

    private static void wear() {
        MapHall hall = withSheet("vmvm");
        Check.same(0, hall.wear(0));
        hall.fold(0);
        Check.same(4, hall.wear(0));
        for (int bad : NO_SHEET) {
            Check.refuses(IndexOutOfBoundsException.class, () -> hall.wear(bad));
        }
    }

    private static void isTorn() {
        MapHall hall = withSheet("vmvm");
        Check.same(false, hall.isTorn(0));
        hall.fold(0);
        Check.same(false, hall.isTorn(0));
        hall.addSheet(0, 0, 0, 0, 's');
        addCreases(hall, 1, "vmvmv");
        hall.fold(1);
        Check.same(true, hall.isTorn(1));
        for (int bad : new int[] {-1, 2, Integer.MIN_VALUE, Integer.MAX_VALUE}) {
            Check.refuses(IndexOutOfBoundsException.class, () -> hall.isTorn(bad));
        }
    }

    private static void isFolded() {
        MapHall hall = withSheet("v");
        Check.same(false, hall.isFolded(0));
        hall.fold(0);
        Check.same(true, hall.isFolded(0));
        hall.unfold(0);
        Check.same(false, hall.isFolded(0));
        for (int bad : NO_SHEET) {
            Check.refuses(IndexOutOfBoundsException.class, () -> hall.isFolded(bad));
        }
    }

    private static void creaseCount() {
        MapHall hall = withSheet("vvm");
        hall.addSheet(0, 0, 0, 0, 's');
        Check.same(3, hall.creaseCount(0));
        Check.same(0, hall.creaseCount(1));
        Check.refuses(IndexOutOfBoundsException.class, () -> hall.creaseCount(-1));
        Check.refuses(IndexOutOfBoundsException.class, () -> hall.creaseCount(2));
    }

    private static void crease() {
        MapHall hall = withSheet("vm");
        Check.same('v', hall.crease(0, 0));
        Check.same('m', hall.crease(0, 1));
        for (int bad : new int[] {-1, 2, 6, Integer.MIN_VALUE, Integer.MAX_VALUE}) {
            Check.refuses(IndexOutOfBoundsException.class, () -> hall.crease(0, bad));
        }
        for (int bad : NO_SHEET) {
            Check.refuses(IndexOutOfBoundsException.class, () -> hall.crease(bad, 0));
        }
    }

    private static void paste() {
        MapHall hall = withSheet("v");
        Check.same(0, hall.paste());
        hall.addPaste(20);
        Check.same(20, hall.paste());
        hall.fold(0);
        hall.unfold(0);
        hall.mend(0);
        Check.same(19, hall.paste());
    }
}
