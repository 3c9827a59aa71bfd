/** Promises 26 to 43: the bounds of each answer and of each reason to refuse, on both sides. */
final class CountEdges {
    static void run(Check check) {
        check.test("promises 26 and 27: 1 if no cell is empty", CountEdges::completionsFull);
        check.test("promises 26 and 27: 3 empty cells count, 4 refuse", CountEdges::completionsLimit);
        check.test("promises 26 and 27: 0 with fewer sheets than cells", CountEdges::completionsFewSheets);
        check.test("promises 26 and 27: a folded sheet fills no cell", CountEdges::completionsFolded);
        check.test("promises 26 and 27: a torn sheet fills no cell", CountEdges::completionsTorn);
        check.test("promises 26 and 27: sheets match those that lie there", CountEdges::completionsLying);
        check.test("promises 26 and 27: sheets must match one another", CountEdges::completionsOneAnother);
        check.test("promises 26 and 27: counting changes nothing", CountEdges::completionsChangeNothing);
        check.test("promises 28 and 29: 1 without creases", () -> bothFoldings(1, ""));
        check.test("promises 28 and 29: from 1 to 11 with 6 creases", CountEdges::foldingsBounds);
        check.test("promises 28 and 29: each way on its own", CountEdges::foldingsInAnyOrder);
        check.test("promises 28 and 29: no such sheet", CountEdges::foldingsSheet);
        check.test("promise 30: the first and the last panel", CountEdges::topPanels);
        check.test("promise 30: no such sheet", CountEdges::topSheet);
        check.test("promise 31: from 0 to 6 points", CountEdges::pointsOf);
        check.test("promise 31: no such cell", () -> QuestionEdges.noSuchCell(MapHall::pointsOf));
        check.test("promise 31: an empty cell refuses", () -> QuestionEdges.emptyCell(MapHall::pointsOf));
        check.test("promises 32 and 33: 0 on an empty table", CountEdges::pointsEmpty);
        check.test("promises 32 and 33: only sheets on the table", CountEdges::pointsOnTable);
        check.test("promises 32 and 33: each pair of kinds, beside and below", CountEdges::pointsOfPairs);
        check.test("promise 34: groups of 1 to 9 cells", CountEdges::groupSizes);
        check.test("promise 34: no such cell", () -> QuestionEdges.noSuchCell(MapHall::groupSize));
        check.test("promise 34: an empty cell refuses", () -> QuestionEdges.emptyCell(MapHall::groupSize));
        check.test("promises 35 and 36: from 0 to 5 groups", CountEdges::groupBounds);
        check.test("promises 35 and 36: the same when asked again", CountEdges::groupsAgain);
        check.test("promises 22, 34 to 37 and 42: every set of cells", CountEdges::everySetOfCells);
        check.test("promise 37: from 0 to 12 pairs", CountEdges::matchedBorders);
        check.test("promise 38: more wear comes first", CountEdges::rankByWear);
        check.test("promise 38: then more creases, then the lower index", CountEdges::rankByCreases);
        check.test("promise 38: no such rank", CountEdges::rankBounds);
        check.test("promise 39: from 0, by folding alone, even at a wear of 9", CountEdges::foldCount);
        check.test("promise 39: a refused fold is not counted", CountEdges::foldCountRefused);
        check.test("promise 40: from 0, by mending alone, above 50 too", CountEdges::usedPaste);
        check.test("promise 40: a refused mend uses no paste", CountEdges::usedPasteRefused);
        check.test("promise 41: a mean from 0.0 to 9.0", CountEdges::meanWear);
        check.test("promise 41: no sheets refuse, one doesn't", CountEdges::meanWearNone);
        check.test("promise 42: a share from 0.0 to 1.0", CountEdges::coveredShare);
        check.test("promise 43: an empty and a full table are consistent", CountEdges::isConsistent);
        check.test("promise 43: sheets with 0 to 6 creases are consistent", CountEdges::creasesAreConsistent);
    }

    private static void bothCompletions(int due, MapHall hall) {
        Check.same(due, hall.completions());
        Check.same(due, hall.completionsBackwards());
    }

    private static void completionsFull() {
        bothCompletions(1, TableTests.laid("sssssssss"));
    }

    private static void completionsLimit() {
        MapHall hall = TableTests.laid("sssssssss");
        int[] due = {1, 4, 2 * 16, 6 * 64};
        for (int empty = 0; empty <= 3; empty++) {
            bothCompletions(due[empty], hall);
            hall.take(8 - empty);
        }
        for (int cell = 4; cell >= 0; cell--) {
            Refusals.notPossible(hall, hall::completions);
            Refusals.notPossible(hall, hall::completionsBackwards);
            hall.take(cell);
        }
        Refusals.notPossible(hall, hall::completions);
        Refusals.notPossible(hall, hall::completionsBackwards);
    }

    private static void completionsFewSheets() {
        MapHall hall = TableTests.laid("...ssssss");
        for (int free = 0; free < 3; free++) {
            bothCompletions(0, hall);
            hall.addSheet(0, 0, 0, 0, 's');
        }
        bothCompletions(6 * 64, hall);
    }

    private static void completionsFolded() {
        MapHall hall = TableTests.laid("ssssssss.");
        hall.addSheet(0, 0, 0, 0, 's');
        hall.addCrease(8, 'v');
        bothCompletions(4, hall);
        hall.fold(8);
        bothCompletions(0, hall);
        hall.unfold(8);
        bothCompletions(4, hall);
    }

    private static void completionsTorn() {
        MapHall hall = TableTests.laid("ssssssss.");
        hall.addSheet(0, 0, 0, 0, 's');
        hall.addCrease(8, 'v');
        for (int wear = 1; wear <= 5; wear++) {
            bothCompletions(4, hall);
            hall.fold(8);
            hall.unfold(8);
        }
        bothCompletions(0, hall);
    }

    private static void completionsLying() {
        // The code 1 must point at the edge: two sides of a corner, one of an edge, none of the middle.
        int[] due = {2, 1, 2, 1, 0, 1, 2, 1, 2};
        for (int cell = 0; cell < 9; cell++) {
            StringBuilder table = new StringBuilder("sssssssss");
            table.setCharAt(cell, '.');
            MapHall hall = TableTests.laid(table.toString());
            hall.addSheet(1, 0, 0, 0, 's');
            bothCompletions(due[cell], hall);
        }
    }

    private static void completionsOneAnother() {
        // Two sheets with a 1 in cells beside one another: both at the edge, or both at each other.
        MapHall row = TableTests.laid("..sssssss");
        row.addSheet(1, 0, 0, 0, 's');
        row.addSheet(1, 0, 0, 0, 's');
        bothCompletions(2 * (2 * 1 + 1), row);
        MapHall column = TableTests.laid("ss.ss.sss");
        column.addSheet(1, 0, 0, 0, 's');
        column.addSheet(1, 0, 0, 0, 's');
        bothCompletions(2 * (2 * 1 + 1), column);
    }

    private static void completionsChangeNothing() {
        MapHall hall = TableTests.laid("ssssss...");
        hall.addSheet(0, 1, 0, 0, 's');
        hall.addSheet(0, 1, 0, 0, 's');
        hall.addSheet(0, 1, 0, 0, 's');
        String before = Digest.whole(hall);
        hall.completions();
        hall.completionsBackwards();
        Check.same(before, Digest.whole(hall));
    }

    private static void bothFoldings(int due, String creases) {
        MapHall hall = SheetTests.withSheet(creases);
        Check.same(due, hall.foldings(0));
        Check.same(due, hall.foldingsByPermutations(0));
    }

    private static void foldingsBounds() {
        bothFoldings(1, "vmvmvm");
        bothFoldings(11, "vvmmmm");
    }

    private static void foldingsInAnyOrder() {
        String creases = "vvmmmm";
        for (int count = 0; count <= 6; count++) {
            String row = creases.substring(0, count);
            int due = Orders.possible(row).size();
            MapHall permutations = SheetTests.withSheet(row);
            Check.same(due, permutations.foldingsByPermutations(0));
            Check.same(due, permutations.foldings(0));
            MapHall adding = SheetTests.withSheet(row);
            Check.same(due, adding.foldings(0));
            Check.same(due, adding.foldingsByPermutations(0));
            Check.same(due, adding.foldingsByPermutations(0));
            Check.same(due, adding.foldings(0));
        }
    }

    private static void foldingsSheet() {
        QuestionEdges.noSuchSheet(MapHall::foldings);
        QuestionEdges.noSuchSheet(MapHall::foldingsByPermutations);
    }

    private static void topPanels() {
        MapHall hall = SheetTests.withSheet("");
        Check.same(true, hall.canBeOnTop(0, 0));
        for (int count = 0; count <= 6; count++) {
            for (int bad : Refusals.outside(0, count)) {
                Refusals.noIndex(hall, () -> hall.canBeOnTop(0, bad));
            }
            Check.same(count == 0, hall.canBeOnTop(0, 0));
            Check.same(true, hall.canBeOnTop(0, count));
            if (count < 6) {
                hall.addCrease(0, "vm".charAt(count % 2));
            }
        }
    }

    private static void topSheet() {
        QuestionEdges.noSuchSheet((hall, sheet) -> hall.canBeOnTop(sheet, 0));
        MapHall hall = TableTests.withKinds("s");
        Refusals.noIndex(hall, () -> hall.canBeOnTop(1, 1));
    }

    private static void pointsOf() {
        MapHall cities = TableTests.laid(".c.ccc.c.");
        Check.same(0, cities.pointsOf(4));
        Check.same(6, TableTests.laid("c........").pointsOf(0));
        Check.same(6, TableTests.laid(".s.slc.s.").pointsOf(4));
        Check.same(6, TableTests.laid("........c").pointsOf(8));
    }

    private static void bothPoints(int due, MapHall hall) {
        Check.same(due, hall.points());
        Check.same(due, hall.pointsByPairs());
    }

    private static void pointsEmpty() {
        bothPoints(0, new MapHall());
        bothPoints(0, TableTests.laid("........."));
    }

    private static void pointsOnTable() {
        MapHall hall = TableTests.withKinds("slc");
        bothPoints(0, hall);
        hall.put(0, 0, 0);
        bothPoints(1, hall);
        hall.put(1, 8, 0);
        bothPoints(1 + 2, hall);
        hall.put(2, 6, 0);
        bothPoints(1 + 2 + 6, hall);
        hall.take(6);
        bothPoints(1 + 2, hall);
    }

    private static void pointsOfPairs() {
        String[] pairs = {"ss", "sl", "sc", "ls", "ll", "lc", "cs", "cl", "cc"};
        int[] due = {2 + 2, 1 + 3, 1 + 6, 3 + 1, 2 + 2, 3 + 6, 6 + 1, 6 + 3, 4 + 4};
        for (int index = 0; index < pairs.length; index++) {
            bothPoints(due[index], TableTests.laid(pairs[index] + "......."));
            bothPoints(due[index], TableTests.laid("......." + pairs[index]));
            char one = pairs[index].charAt(0);
            char other = pairs[index].charAt(1);
            bothPoints(due[index], TableTests.laid(one + ".." + other + "....."));
            bothPoints(due[index], TableTests.laid("....." + one + ".." + other));
        }
    }

    private static void groupSizes() {
        String[] tables = {"s........", "ss.......", "sss......", "sss..s...", "sss..s..s", "sss..s.ss",
            "sss..ssss", "ssss.ssss", "sssssssss"};
        for (int size = 1; size <= 9; size++) {
            Check.same(size, TableTests.laid(tables[size - 1]).groupSize(0));
        }
        MapHall hall = TableTests.laid("ss.s....s");
        Check.same(3, hall.groupSize(3));
        Check.same(1, hall.groupSize(8));
    }

    private static void bothGroups(int due, String table) {
        MapHall hall = TableTests.laid(table);
        Check.same(due, hall.groups());
        Check.same(due, hall.groupsByJoining());
    }

    private static void groupBounds() {
        bothGroups(0, ".........");
        bothGroups(1, "s........");
        bothGroups(1, "sssssssss");
        bothGroups(5, "s.s.s.s.s");
        bothGroups(4, "s.s...s.s");
    }

    private static void groupsAgain() {
        // Joined from both ends: the sets meet in the last cells.
        MapHall hall = TableTests.laid("sss..ssss");
        for (int times = 0; times < 3; times++) {
            Check.same(1, hall.groups());
            Check.same(1, hall.groupsByJoining());
        }
        hall.take(7);
        for (int times = 0; times < 3; times++) {
            Check.same(2, hall.groups());
            Check.same(2, hall.groupsByJoining());
        }
    }

    private static void everySetOfCells() {
        for (int set = 0; set < 512; set++) {
            StringBuilder table = new StringBuilder();
            for (int cell = 0; cell < 9; cell++) {
                table.append((set >> cell & 1) == 1 ? "slc".charAt(cell % 3) : '.');
            }
            MapHall hall = TableTests.laid(table.toString());
            PlainHall due = plainlyLaid(table.toString());
            Check.same(due.emptyCells(), hall.emptyCells());
            Check.same(due.groups(), hall.groups());
            Check.same(due.groups(), hall.groupsByJoining());
            Check.same(due.matchedBorders(), hall.matchedBorders());
            Check.same(due.coveredShare(), hall.coveredShare());
            bothPoints(due.points(), hall);
            for (int cell = 0; cell < 9; cell++) {
                if (table.charAt(cell) != '.') {
                    Check.same(due.groupSize(cell), hall.groupSize(cell));
                    Check.same(due.pointsOf(cell), hall.pointsOf(cell));
                }
            }
        }
    }

    private static PlainHall plainlyLaid(String table) {
        PlainHall hall = new PlainHall();
        for (int cell = 0; cell < 9; cell++) {
            if (table.charAt(cell) != '.') {
                hall.put(hall.addSheet(0, 0, 0, 0, table.charAt(cell)), cell, 0);
            }
        }
        return hall;
    }

    private static void matchedBorders() {
        Check.same(0, new MapHall().matchedBorders());
        Check.same(0, TableTests.laid("s........").matchedBorders());
        Check.same(1, TableTests.laid(".......ss").matchedBorders());
        Check.same(12, TableTests.laid("sssssssss").matchedBorders());
    }

    private static void wearOut(MapHall hall, int sheet, int times) {
        for (int time = 0; time < times; time++) {
            hall.fold(sheet);
            hall.unfold(sheet);
        }
    }

    private static void ranks(MapHall hall, int... due) {
        for (int rank = 0; rank < due.length; rank++) {
            Check.same(due[rank], hall.sheetByWear(rank));
        }
    }

    private static void rankByWear() {
        MapHall hall = TableTests.withKinds("sss");
        SheetTests.addCreases(hall, 0, "vvvvvv");
        SheetTests.addCreases(hall, 1, "v");
        SheetTests.addCreases(hall, 2, "v");
        wearOut(hall, 2, 9);
        wearOut(hall, 1, 8);
        ranks(hall, 2, 1, 0);
        wearOut(hall, 1, 1);
        ranks(hall, 1, 2, 0);
    }

    private static void rankByCreases() {
        MapHall hall = TableTests.withKinds("ssss");
        SheetTests.addCreases(hall, 3, "vvvvvv");
        SheetTests.addCreases(hall, 2, "vvvvv");
        SheetTests.addCreases(hall, 1, "vvvvv");
        ranks(hall, 3, 1, 2, 0);
        ranks(TableTests.withKinds("sssssssss"), 0, 1, 2, 3, 4, 5, 6, 7, 8);
    }

    private static void rankBounds() {
        MapHall hall = new MapHall();
        Refusals.nothingThere(hall, () -> hall.sheetByWear(0));
        for (int sheet = 0; sheet < 9; sheet++) {
            hall.addSheet(0, 0, 0, 0, 's');
            Check.same(0, hall.sheetByWear(0));
            Check.same(sheet, hall.sheetByWear(sheet));
            for (int bad : Refusals.outside(0, sheet)) {
                Refusals.nothingThere(hall, () -> hall.sheetByWear(bad));
            }
        }
    }

    private static void foldCount() {
        MapHall hall = TermEdges.withWear(0);
        Check.same(0, hall.foldCount());
        hall.addCrease(0, 'v');
        Check.same(0, hall.foldCount());
        for (int times = 1; times <= 12; times++) {
            hall.fold(0);
            Check.same(times, hall.foldCount());
            hall.unfold(0);
            Check.same(times, hall.foldCount());
        }
        CommandTests.runText(hall, "fold 0;open 0;fold 0");
        Check.same(14, hall.foldCount());
    }

    private static void foldCountRefused() {
        MapHall hall = SheetTests.withSheet("v");
        hall.fold(0);
        Refusals.wrongState(hall, () -> hall.fold(0));
        Refusals.noIndex(hall, () -> hall.fold(1));
        CommandTests.fails(hall, 2, "open 0;fold 0;fold 0");
        Check.same(1, hall.foldCount());
    }

    private static void usedPaste() {
        MapHall hall = SheetTests.withSheet("vvvvvv");
        Check.same(0, hall.usedPaste());
        for (int times = 1; times <= 6; times++) {
            hall.addPaste(9);
            wearOut(hall, 0, 2);
            Check.same(9 * times - 9, hall.usedPaste());
            hall.mend(0);
            Check.same(9 * times, hall.usedPaste());
        }
    }

    private static void usedPasteRefused() {
        MapHall hall = TermEdges.withWear(2);
        hall.addPaste(1);
        Refusals.notPossible(hall, () -> hall.mend(0));
        CommandTests.fails(hall, 2, "paste 1;mend 0;mend 0");
        Check.same(0, hall.usedPaste());
        CommandTests.runText(hall, "paste 1;mend 0");
        Check.same(2, hall.usedPaste());
    }

    private static void meanWear() {
        Check.same(0.0, TermEdges.withWear(0).meanWear());
        Check.same(9.0, TermEdges.withWear(9).meanWear());
        for (int wear = 1; wear <= 9; wear++) {
            MapHall hall = TermEdges.withWear(wear);
            for (int sheets = 1; sheets <= 9; sheets++) {
                Check.same((double) wear / (double) sheets, hall.meanWear());
                if (sheets < 9) {
                    hall.addSheet(0, 0, 0, 0, 's');
                }
            }
        }
        MapHall worn = TableTests.withKinds("sssssssss");
        for (int sheet = 0; sheet < 9; sheet++) {
            SheetTests.addCreases(worn, sheet, "vvvvvv");
            wearOut(worn, sheet, 2);
        }
        Check.same(9.0, worn.meanWear());
    }

    private static void meanWearNone() {
        MapHall hall = new MapHall();
        String before = Digest.whole(hall);
        Check.refuses(ArithmeticException.class, hall::meanWear);
        Check.same(before, Digest.whole(hall));
        hall.addSheet(0, 0, 0, 0, 's');
        Check.same(0.0, hall.meanWear());
    }

    private static void coveredShare() {
        MapHall hall = TableTests.withKinds("sssssssss");
        Check.same(0.0f, hall.coveredShare());
        for (int sheet = 0; sheet < 9; sheet++) {
            hall.put(sheet, sheet, 0);
            Check.same((float) (sheet + 1) / 9.0f, hall.coveredShare());
        }
        Check.same(1.0f, hall.coveredShare());
    }

    private static void isConsistent() {
        Check.same(true, new MapHall().isConsistent());
        for (char kind : "slc".toCharArray()) {
            Check.same(true, TableTests.laid("sssssssss".replace('s', kind)).isConsistent());
        }
        MapHall turned = new MapHall();
        turned.addSheet(1, 2, 3, 4, 's');
        turned.addSheet(1, 2, 3, 4, 's');
        turned.put(0, 4, 0);
        // Its 2 is turned from the east to the west, at the 2 in the east of the other.
        turned.put(1, 5, 2);
        Check.same(true, turned.isConsistent());
    }

    private static void creasesAreConsistent() {
        MapHall hall = TableTests.laid("slcslcslc");
        for (int sheet = 0; sheet < 9; sheet++) {
            SheetTests.addCreases(hall, sheet, "vvmmmm".substring(sheet % 7));
        }
        Check.same(true, hall.isConsistent());
        hall.take(0);
        hall.fold(0);
        Check.same(true, hall.isConsistent());
    }
}
