/** Promises 48 to 50: the bounds of each answer and of each reason to refuse, on both sides. */
final class OutputEdges {
    static void run(Check check) {
        check.test("promise 48: an empty and a full table, both of 20", OutputEdges::tableLengths);
        check.test("promise 48: each sheet and quarters in each cell", OutputEdges::tableCells);
        check.test("promise 48: replaces the output", OutputEdges::tableReplaces);
        check.test("promise 49: codes from 0 to 9 and each kind", OutputEdges::sheetCodes);
        check.test("promise 49: a bar only before creases, from 1 to 6", OutputEdges::sheetCreases);
        check.test("promise 49: a star for each wear from 0 to 9", OutputEdges::sheetWear);
        check.test("promise 49: a sign at the end if folded", OutputEdges::sheetFolded);
        check.test("promise 49: from 5 to 22 characters", OutputEdges::sheetLengths);
        check.test("promise 49: replaces the output", OutputEdges::sheetReplaces);
        check.test("promise 49: no such sheet", () -> QuestionEdges.noSuchSheet(MapHall::writeSheet));
        check.test("promise 50: initially empty", OutputEdges::initiallyEmpty);
        check.test("promise 50: no such character", OutputEdges::noSuchCharacter);
    }

    private static void tableLengths() {
        MapHall hall = TableTests.withKinds("sssssssss");
        Check.same(20, hall.writeTable());
        for (int sheet = 0; sheet < 9; sheet++) {
            hall.put(sheet, sheet, 0);
            Check.same(20, hall.writeTable());
        }
        Check.same("001020/304050/607080", OutputTests.tableText(hall));
    }

    private static void tableCells() {
        for (int cell = 0; cell < 9; cell++) {
            MapHall hall = TableTests.withKinds("sssssssss");
            int place = 2 * cell + cell / 3;
            for (int sheet = 0; sheet < 9; sheet++) {
                for (int turns = 0; turns < 4; turns++) {
                    hall.put(sheet, cell, turns);
                    StringBuilder due = new StringBuilder("....../....../......");
                    due.setCharAt(place, (char) ('0' + sheet));
                    due.setCharAt(place + 1, (char) ('0' + turns));
                    Check.same(due.toString(), OutputTests.tableText(hall));
                    hall.take(cell);
                }
            }
        }
    }

    private static void tableReplaces() {
        MapHall hall = SheetTests.withSheet("vvvvvv");
        hall.fold(0);
        hall.unfold(0);
        hall.fold(0);
        Check.same(22, hall.writeSheet(0));
        Check.same("....../....../......", OutputTests.tableText(hall));
    }

    private static void sheetCodes() {
        for (int code = 0; code <= 9; code++) {
            for (char kind : "slc".toCharArray()) {
                MapHall hall = new MapHall();
                hall.addSheet(code, 9 - code, 0, 9, kind);
                String due = "" + kind + code + (9 - code) + "09";
                Check.same(due, OutputTests.sheetText(hall, 0));
                hall.put(0, 4, 3);
                Check.same(due, OutputTests.sheetText(hall, 0));
            }
        }
    }

    private static void sheetCreases() {
        MapHall hall = SheetTests.withSheet("");
        String creases = "vmmvmv";
        Check.same("l0000", OutputTests.sheetText(hall, 0));
        for (int count = 1; count <= 6; count++) {
            hall.addCrease(0, creases.charAt(count - 1));
            Check.same("l0000|" + creases.substring(0, count), OutputTests.sheetText(hall, 0));
        }
    }

    private static void sheetWear() {
        for (int wear = 1; wear <= 9; wear++) {
            MapHall hall = TermEdges.withWear(wear);
            Check.same("l0000|v" + "*".repeat(wear), OutputTests.sheetText(hall, 0));
        }
        MapHall hall = TermEdges.withWear(9);
        hall.fold(0);
        Check.same("l0000|v*********#", OutputTests.sheetText(hall, 0));
    }

    private static void sheetFolded() {
        MapHall hall = SheetTests.withSheet("v");
        Check.same("l0000|v", OutputTests.sheetText(hall, 0));
        hall.fold(0);
        Check.same("l0000|v*#", OutputTests.sheetText(hall, 0));
        hall.unfold(0);
        Check.same("l0000|v*", OutputTests.sheetText(hall, 0));
    }

    private static void sheetLengths() {
        MapHall hall = SheetTests.withSheet("");
        Check.same(5, hall.writeSheet(0));
        SheetTests.addCreases(hall, 0, "mmmmmm");
        Check.same(12, hall.writeSheet(0));
        hall.fold(0);
        hall.unfold(0);
        Check.same(18, hall.writeSheet(0));
        hall.fold(0);
        Check.same(22, hall.writeSheet(0));
        Check.same("l0000|mmmmmm*********#", OutputTests.outputText(hall, 22));
    }

    private static void sheetReplaces() {
        MapHall hall = TableTests.withKinds("s");
        hall.writeTable();
        Check.same(5, hall.writeSheet(0));
        Check.same("s0000", OutputTests.outputText(hall, 5));
    }

    private static void initiallyEmpty() {
        MapHall hall = SheetTests.withSheet("v");
        for (int bad : Refusals.outside(0, -1)) {
            Refusals.noIndex(hall, () -> hall.outputChar(bad));
        }
        CommandTests.runText(hall, "fold 0");
        Refusals.noIndex(hall, () -> hall.outputChar(0));
    }

    private static void noSuchCharacter() {
        MapHall hall = TableTests.laid("s........");
        hall.writeTable();
        Check.same('0', hall.outputChar(0));
        Check.same('.', hall.outputChar(19));
        for (int bad : Refusals.outside(0, 19)) {
            Refusals.noIndex(hall, () -> hall.outputChar(bad));
        }
        hall.writeSheet(0);
        Check.same('s', hall.outputChar(0));
        Check.same('0', hall.outputChar(4));
        for (int bad : Refusals.outside(0, 4)) {
            Refusals.noIndex(hall, () -> hall.outputChar(bad));
        }
    }
}
