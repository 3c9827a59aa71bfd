import java.util.Set;

/** The sections "Sheets" to "Creases" and "Details" of the terms: each bound, on both sides. */
final class TermEdges {
    private static final int[] BESIDE_MIDDLE = {1, 5, 7, 3};
    private static final Set<String> NEIGHBOURS = Set.of(
            "0 1", "0 3", "1 2", "1 4", "2 5", "3 4", "3 6", "4 5", "4 7", "5 8", "6 7", "7 8");

    static void run(Check check) {
        check.test("sheets: at most 9 exist", TermEdges::nineSheets);
        check.test("sheets: their indices start at 0 and never change", TermEdges::lastingIndices);
        check.test("sheets: border codes from 0 to 9", TermEdges::borderCodes);
        check.test("sheets: from 0 to 6 creases", TermEdges::sixCreases);
        check.test("sheets: a wear from 0, at first, to 9", TermEdges::wearBounds);
        check.test("sheets: torn from a wear of 5 on", TermEdges::tornFrom);
        check.test("sheets: flat and off the table at first", TermEdges::firstFlat);
        check.test("sides: s minus t, modulo 4, in borderIn", TermEdges::turnedBorders);
        check.test("sides: s minus t, modulo 4, for a sheet that is laid", TermEdges::turnedWhenLaid);
        check.test("sides: s minus t, modulo 4, for a sheet that lies there", TermEdges::turnedWhenLying);
        check.test("table: 2 neighbours of a corner, 3 of an edge, 4 of the middle", TermEdges::besideCells);
        check.test("table: exactly these pairs of cells are neighbours", TermEdges::neighbourPairs);
        check.test("table: no border counts towards an empty cell or the edge", TermEdges::freeBorders);
        check.test("table: one wrong side of four is enough not to match", TermEdges::oneWrongSide);
        check.test("table: empty", TermEdges::emptyTable);
        check.test("table: full", TermEdges::fullTable);
        check.test("points: a sea has 1, and 1 more for each sea beside it", TermEdges::seaPoints);
        check.test("points: a land has 2, and 1 more for each that is none", TermEdges::landPoints);
        check.test("points: a city has 6, minus 2 for each city, not less than 0", TermEdges::cityPoints);
        check.test("points: none for cells across a corner or the edge", TermEdges::farPoints);
        check.test("creases: 0 creases, 1 panel", TermEdges::noCrease);
        check.test("creases: 6 creases, 7 panels", TermEdges::mostCreases);
        check.test("creases: above or below, by kind and number", TermEdges::firstCondition);
        check.test("creases: even ones don't cross, odd ones neither", TermEdges::secondCondition);
        check.test("creases: all rows together fold in the known numbers", TermEdges::knownSums);
        check.test("details: a sheet on the table gets creases", TermEdges::creaseOnTable);
        check.test("details: a sheet on the table is mended", TermEdges::mendOnTable);
        check.test("details: a torn sheet is folded", TermEdges::foldTorn);
        check.test("details: a torn sheet gets creases", TermEdges::creaseTorn);
        check.test("details: quarters make different ways of equal borders", TermEdges::differentQuarters);
    }

    /** A hall with one flat sheet of this wear, from 0 to 9, and one crease if it has any. */
    static MapHall withWear(int wear) {
        MapHall hall = SheetTests.withSheet(wear == 0 ? "" : "v");
        for (int times = 0; times < wear; times++) {
            hall.fold(0);
            hall.unfold(0);
        }
        return hall;
    }

    private static void nineSheets() {
        MapHall hall = TableTests.withKinds("ssssssss");
        Check.same(8, hall.addSheet(0, 0, 0, 0, 's'));
        Refusals.wrongState(hall, () -> hall.addSheet(0, 0, 0, 0, 's'));
        hall.undo();
        Check.same(1, CommandTests.runText(hall, "sheet 0000 s"));
        Check.same(9, hall.sheetCount());
        CommandTests.fails(hall, 0, "sheet 0000 s");
        Check.same(9, hall.sheetCount());
    }

    private static void lastingIndices() {
        MapHall hall = new MapHall();
        for (int sheet = 0; sheet < 9; sheet++) {
            Check.same(sheet, hall.addSheet(sheet, 0, 0, 0, "slc".charAt(sheet % 3)));
        }
        hall.put(8, 0, 0);
        hall.put(0, 8, 0);
        hall.addCrease(5, 'm');
        hall.fold(5);
        hall.take(0);
        hall.put(3, 0, 0);
        for (int sheet = 0; sheet < 9; sheet++) {
            Check.same(sheet, hall.border(sheet, 0));
            Check.same("slc".charAt(sheet % 3), hall.kind(sheet));
        }
        Check.same(3, hall.sheetIn(0));
        Check.same(0, hall.sheetIn(8));
    }

    private static void borderCodes() {
        for (int code = 0; code <= 9; code++) {
            MapHall hall = new MapHall();
            hall.addSheet(code, 9 - code, code, 9 - code, 'l');
            for (int side = 0; side < 4; side++) {
                Check.same(side % 2 == 0 ? code : 9 - code, hall.border(0, side));
            }
        }
    }

    private static void sixCreases() {
        MapHall hall = SheetTests.withSheet("");
        Check.same(0, hall.creaseCount(0));
        for (int count = 1; count <= 6; count++) {
            Check.same(count, hall.addCrease(0, 'v'));
            Check.same(count, hall.creaseCount(0));
        }
        Refusals.wrongState(hall, () -> hall.addCrease(0, 'v'));
        CommandTests.fails(hall, 0, "crease 0 v");
        Check.same(6, hall.creaseCount(0));
    }

    private static void wearBounds() {
        for (int creases = 1; creases <= 6; creases++) {
            MapHall hall = SheetTests.withSheet("vvvvvv".substring(6 - creases));
            Check.same(0, hall.wear(0));
            for (int times = 1; times <= 11; times++) {
                Check.same(Math.min(9, times * creases), hall.fold(0));
                Check.same(Math.min(9, times * creases), hall.wear(0));
                hall.unfold(0);
            }
        }
    }

    private static void tornFrom() {
        for (int wear = 0; wear <= 9; wear++) {
            MapHall hall = withWear(wear);
            Check.same(wear, hall.wear(0));
            Check.same(wear >= 5, hall.isTorn(0));
            Check.same(wear >= 5 ? 0 : 36, hall.waysToPut(0));
            if (wear >= 5) {
                Refusals.wrongState(hall, () -> hall.put(0, 0, 0));
            } else {
                Check.same(0, hall.put(0, 0, 0));
            }
        }
    }

    private static void firstFlat() {
        MapHall hall = SheetTests.withSheet("");
        Check.same(false, hall.isFolded(0));
        Check.same(false, hall.isTorn(0));
        Refusals.nothingThere(hall, () -> hall.cellOf(0));
    }

    /** The codes on north, east, south and west of a sheet with 1, 2, 3 and 4, turned by 0 to 3. */
    private static int[][] turnedCodes() {
        return new int[][] {{1, 2, 3, 4}, {4, 1, 2, 3}, {3, 4, 1, 2}, {2, 3, 4, 1}};
    }

    /** Sheet 0 has the codes 1 to 4, sheet 1 the same code on all sides. */
    private static MapHall withCodes(int code) {
        MapHall hall = new MapHall();
        hall.addSheet(1, 2, 3, 4, 's');
        hall.addSheet(code, code, code, code, 's');
        return hall;
    }

    private static void turnedBorders() {
        for (int turns = 0; turns < 4; turns++) {
            MapHall hall = withCodes(0);
            hall.put(0, 4, turns);
            for (int side = 0; side < 4; side++) {
                Check.same(turnedCodes()[turns][side], hall.borderIn(4, side));
                Check.same(side + 1, hall.border(0, side));
            }
        }
    }

    private static void turnedWhenLaid() {
        for (int code = 1; code <= 4; code++) {
            for (int side = 0; side < 4; side++) {
                MapHall hall = withCodes(code);
                hall.put(1, BESIDE_MIDDLE[side], 0);
                for (int turns = 0; turns < 4; turns++) {
                    Check.same(turnedCodes()[turns][side] == code, hall.matches(0, 4, turns));
                }
            }
        }
    }

    private static void turnedWhenLying() {
        for (int code = 1; code <= 4; code++) {
            for (int turns = 0; turns < 4; turns++) {
                MapHall hall = withCodes(code);
                hall.put(0, 4, turns);
                for (int side = 0; side < 4; side++) {
                    boolean due = turnedCodes()[turns][side] == code;
                    Check.same(due, hall.matches(1, BESIDE_MIDDLE[side], 0));
                }
            }
        }
    }

    private static void besideCells() {
        int[] due = {2, 3, 2, 3, 4, 3, 2, 3, 2};
        MapHall hall = TableTests.laid("sssssssss");
        for (int cell = 0; cell < 9; cell++) {
            Check.same(cell, hall.take(cell));
            Check.same(due[cell], hall.put(cell, cell, 0));
        }
    }

    private static void neighbourPairs() {
        for (int one = 0; one < 9; one++) {
            for (int other = 0; other < 9; other++) {
                if (one != other) {
                    MapHall hall = TableTests.withKinds("ss");
                    hall.put(0, one, 0);
                    String pair = Math.min(one, other) + " " + Math.max(one, other);
                    int due = NEIGHBOURS.contains(pair) ? 1 : 0;
                    Check.same(due, hall.put(1, other, 0));
                    Check.same(due, hall.matchedBorders());
                    Check.same(2 - due, hall.groups());
                }
            }
        }
    }

    private static void freeBorders() {
        for (int cell = 0; cell < 9; cell++) {
            MapHall hall = withCodes(5);
            Check.same(true, hall.matches(0, cell, 1));
            Check.same(0, hall.put(0, cell, 1));
            // Across a corner, and so without a common side.
            int far = cell == 4 ? 0 : 8 - cell;
            Check.same(0, hall.put(1, far, 0));
        }
    }

    private static void oneWrongSide() {
        for (int wrong = 0; wrong < 4; wrong++) {
            MapHall hall = TableTests.withKinds("ssss");
            for (int side = 0; side < 4; side++) {
                hall.put(side, BESIDE_MIDDLE[side], 0);
            }
            int[] codes = new int[4];
            codes[wrong] = 1;
            hall.addSheet(codes[0], codes[1], codes[2], codes[3], 's');
            Check.same(false, hall.matches(4, 4, 0));
            Refusals.notPossible(hall, () -> hall.put(4, 4, 0));
            hall.take(BESIDE_MIDDLE[wrong]);
            Check.same(true, hall.matches(4, 4, 0));
            Check.same(3, hall.put(4, 4, 0));
        }
    }

    private static void emptyTable() {
        MapHall hall = new MapHall();
        Check.same(9, hall.emptyCells());
        Check.same(0, hall.matchedBorders());
        Check.same(0, hall.groups());
        Check.same(0, hall.groupsByJoining());
        Check.same(0, hall.points());
        Check.same(0, hall.pointsByPairs());
        Check.same(0.0f, hall.coveredShare());
        Check.same("....../....../......", OutputTests.tableText(hall));
        for (int cell = 0; cell < 9; cell++) {
            int empty = cell;
            Refusals.nothingThere(hall, () -> hall.sheetIn(empty));
            Refusals.nothingThere(hall, () -> hall.take(empty));
        }
    }

    private static void fullTable() {
        MapHall hall = TableTests.laid("sssssssss");
        Check.same(0, hall.emptyCells());
        Check.same(12, hall.matchedBorders());
        Check.same(1, hall.groups());
        Check.same(1, hall.groupsByJoining());
        Check.same(9 + 24, hall.points());
        Check.same(9 + 24, hall.pointsByPairs());
        Check.same(1.0f, hall.coveredShare());
        Check.same("001020/304050/607080", OutputTests.tableText(hall));
        for (int cell = 0; cell < 9; cell++) {
            int full = cell;
            Check.same(cell, hall.sheetIn(cell));
            Refusals.wrongState(hall, () -> hall.put(full, full, 0));
        }
    }

    /** The points of a sheet in the middle with so many sheets of a kind beside it. */
    private static int pointsInMiddle(char kind, int count, char beside) {
        MapHall hall = TableTests.withKinds("" + kind + String.valueOf(beside).repeat(count));
        hall.put(0, 4, 0);
        for (int sheet = 1; sheet <= count; sheet++) {
            hall.put(sheet, BESIDE_MIDDLE[sheet - 1], 0);
        }
        return hall.pointsOf(4);
    }

    private static void seaPoints() {
        for (int count = 0; count <= 4; count++) {
            Check.same(1 + count, pointsInMiddle('s', count, 's'));
            Check.same(1, pointsInMiddle('s', count, 'l'));
            Check.same(1, pointsInMiddle('s', count, 'c'));
        }
    }

    private static void landPoints() {
        for (int count = 0; count <= 4; count++) {
            Check.same(2 + count, pointsInMiddle('l', count, 's'));
            Check.same(2 + count, pointsInMiddle('l', count, 'c'));
            Check.same(2, pointsInMiddle('l', count, 'l'));
        }
    }

    private static void cityPoints() {
        int[] due = {6, 4, 2, 0, 0};
        for (int count = 0; count <= 4; count++) {
            Check.same(due[count], pointsInMiddle('c', count, 'c'));
            Check.same(6, pointsInMiddle('c', count, 's'));
            Check.same(6, pointsInMiddle('c', count, 'l'));
        }
        MapHall hall = TableTests.laid(".c.ccc.c.");
        Check.same(4 * 4, hall.points());
        Check.same(4 * 4, hall.pointsByPairs());
    }

    private static void farPoints() {
        MapHall seas = TableTests.laid("s.s.s.s.s");
        MapHall cities = TableTests.laid("c.c.c.c.c");
        for (int cell = 0; cell < 9; cell += 2) {
            Check.same(1, seas.pointsOf(cell));
            Check.same(6, cities.pointsOf(cell));
        }
        for (String table : new String[] {"..ss.....", ".....ss.."}) {
            Check.same(1 + 1, TableTests.laid(table).points());
            Check.same(6 + 6, TableTests.laid(table.replace('s', 'c')).points());
        }
    }

    private static void bothFoldings(int due, String creases) {
        MapHall hall = SheetTests.withSheet(creases);
        Check.same(due, hall.foldings(0));
        Check.same(due, hall.foldingsByPermutations(0));
    }

    /** The panels of this row of creases that can be on top are exactly these. */
    private static void tops(String creases, String due) {
        MapHall hall = SheetTests.withSheet(creases);
        for (int panel = 0; panel <= creases.length(); panel++) {
            Check.same(due.indexOf('0' + panel) >= 0, hall.canBeOnTop(0, panel));
        }
    }

    private static void noCrease() {
        bothFoldings(1, "");
        tops("", "0");
        MapHall hall = SheetTests.withSheet("");
        Refusals.noIndex(hall, () -> hall.canBeOnTop(0, 1));
        Refusals.noIndex(hall, () -> hall.crease(0, 0));
    }

    private static void mostCreases() {
        // Each panel must lie above the one before it.
        bothFoldings(1, "vmvmvm");
        tops("vmvmvm", "6");
        bothFoldings(1, "mvmvmv");
        tops("mvmvmv", "0");
        MapHall hall = SheetTests.withSheet("vmvmvm");
        Refusals.noIndex(hall, () -> hall.canBeOnTop(0, 7));
        Check.same('m', hall.crease(0, 5));
        Refusals.noIndex(hall, () -> hall.crease(0, 6));
    }

    private static void firstCondition() {
        tops("v", "1");
        tops("m", "0");
        // The orders, from the bottom: 021 and 201, 012, 210, 102 and 120.
        bothFoldings(2, "vv");
        tops("vv", "1");
        bothFoldings(1, "vm");
        tops("vm", "2");
        bothFoldings(1, "mv");
        tops("mv", "0");
        bothFoldings(2, "mm");
        tops("mm", "02");
    }

    private static void secondCondition() {
        // 0231, 2301 and 2013; the creases 0 and 2 would cross in 0213 and 2031.
        bothFoldings(3, "vvv");
        tops("vvv", "13");
        // 34012, 30412, 30124 and 01342; the creases 1 and 3 would cross in 30142 and 01324.
        bothFoldings(4, "vmmm");
        tops("vmmm", "24");
    }

    private static void knownSums() {
        int[] due = {1, 2, 6, 16, 50, 144, 462};
        for (int count = 0; count <= 6; count++) {
            int sum = 0;
            for (int row = 0; row < 1 << count; row++) {
                StringBuilder creases = new StringBuilder();
                for (int index = 0; index < count; index++) {
                    creases.append("vm".charAt(row >> index & 1));
                }
                sum += SheetTests.withSheet(creases.toString()).foldings(0);
            }
            Check.same(due[count], sum);
        }
    }

    private static void creaseOnTable() {
        MapHall hall = SheetTests.withSheet("");
        hall.put(0, 4, 0);
        for (int count = 1; count <= 6; count++) {
            Check.same(count, hall.addCrease(0, 'm'));
        }
        Refusals.wrongState(hall, () -> hall.addCrease(0, 'm'));
        Check.same(4, hall.cellOf(0));
    }

    private static void mendOnTable() {
        MapHall hall = withWear(4);
        hall.addPaste(4);
        hall.put(0, 4, 0);
        Check.same(0, hall.mend(0));
        Check.same(0, hall.wear(0));
        Check.same(4, hall.cellOf(0));
    }

    private static void foldTorn() {
        MapHall hall = withWear(5);
        Check.same(true, hall.isTorn(0));
        Check.same(6, hall.fold(0));
    }

    private static void creaseTorn() {
        MapHall hall = withWear(5);
        Check.same(true, hall.isTorn(0));
        Check.same(2, hall.addCrease(0, 'v'));
    }

    private static void differentQuarters() {
        MapHall hall = TableTests.laid("ssssssss.");
        hall.addSheet(0, 0, 0, 0, 's');
        Check.same(4, hall.waysToPut(8));
        Check.same(4, hall.completions());
        Check.same(4, hall.completionsBackwards());
    }
}
