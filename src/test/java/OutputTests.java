/** Promises 48 to 50: the output. */
final class OutputTests {
    static void run(Check check) {
        check.test("promise 48: writeTable", OutputTests::writeTable);
        check.test("promise 49: writeSheet", OutputTests::writeSheet);
        check.test("promise 49: the longest description", OutputTests::longestSheet);
        check.test("promise 49: writeSheet refuses and leaves the output", OutputTests::writeSheetRefusals);
        check.test("promise 50: outputChar", OutputTests::outputChar);
    }

    static String outputText(MapHall hall, int length) {
        StringBuilder text = new StringBuilder();
        for (int index = 0; index < length; index++) {
            text.append(hall.outputChar(index));
        }
        Check.refuses(IndexOutOfBoundsException.class, () -> hall.outputChar(length));
        return text.toString();
    }

    static String sheetText(MapHall hall, int sheet) {
        return outputText(hall, hall.writeSheet(sheet));
    }

    static String tableText(MapHall hall) {
        return outputText(hall, hall.writeTable());
    }

    private static void writeTable() {
        MapHall hall = TableTests.withKinds("slcslcslc");
        Check.same("....../....../......", tableText(hall));
        hall.put(0, 0, 0);
        hall.put(1, 2, 3);
        hall.put(2, 6, 1);
        hall.put(4, 7, 0);
        Check.same("00..13/....../2140..", tableText(hall));
        Check.same(20, hall.writeTable());
        hall.put(8, 8, 2);
        hall.take(0);
        Check.same("....13/....../214082", tableText(hall));
    }

    private static void writeSheet() {
        MapHall hall = new MapHall();
        hall.addSheet(1, 2, 0, 3, 'c');
        Check.same("c1203", sheetText(hall, 0));
        hall.put(0, 4, 1);
        Check.same("c1203", sheetText(hall, 0));
        hall.take(4);
        SheetTests.addCreases(hall, 0, "vm");
        Check.same("c1203|vm", sheetText(hall, 0));
        hall.fold(0);
        Check.same("c1203|vm**#", sheetText(hall, 0));
        hall.unfold(0);
        Check.same("c1203|vm**", sheetText(hall, 0));
        hall.addCrease(0, 'm');
        Check.same("c1203|vmm**", sheetText(hall, 0));
        hall.addSheet(9, 0, 9, 0, 's');
        Check.same("s9090", sheetText(hall, 1));
    }

    private static void longestSheet() {
        MapHall hall = SheetTests.withSheet("vvvvvv");
        hall.fold(0);
        hall.unfold(0);
        hall.fold(0);
        Check.same("l0000|vvvvvv*********#", sheetText(hall, 0));
    }

    private static void writeSheetRefusals() {
        MapHall hall = SheetTests.withSheet("");
        hall.writeSheet(0);
        for (int bad : new int[] {-1, 1, Integer.MIN_VALUE, Integer.MAX_VALUE}) {
            Check.refuses(IndexOutOfBoundsException.class, () -> hall.writeSheet(bad));
        }
        Check.same("l0000", outputText(hall, 5));
    }

    private static void outputChar() {
        MapHall hall = SheetTests.withSheet("");
        Check.refuses(IndexOutOfBoundsException.class, () -> hall.outputChar(0));
        hall.writeTable();
        Check.same('.', hall.outputChar(19));
        Check.same('/', hall.outputChar(6));
        hall.writeSheet(0);
        Check.same('l', hall.outputChar(0));
        Check.same('0', hall.outputChar(4));
        for (int bad : new int[] {-1, 5, 19, Integer.MIN_VALUE, Integer.MAX_VALUE}) {
            Check.refuses(IndexOutOfBoundsException.class, () -> hall.outputChar(bad));
        }
        hall.undo();
        Check.same("l0000", outputText(hall, 5));
    }
}
