import java.util.NoSuchElementException;

/** Promises 7, 8, 18 to 22, 24 to 27 and 31 to 37: the table, completions, points, groups. */
final class TableTests {
    private static final int[] NO_CELL = {-1, 9, Integer.MIN_VALUE, Integer.MAX_VALUE};
    private static final int[] NO_TURNS = {-1, 4, Integer.MIN_VALUE, Integer.MAX_VALUE};

    static void run(Check check) {
        check.test("promise 7: put answers the neighbours", TableTests::putNeighbours);
        check.test("promise 7: put refuses, the first reason first", TableTests::putRefusals);
        check.test("promise 7: put compares all four sides", TableTests::putFourSides);
        check.test("promise 8: take", TableTests::take);
        check.test("promise 18: cellOf", TableTests::cellOf);
        check.test("promise 19: sheetIn", TableTests::sheetIn);
        check.test("promise 20: turnsIn", TableTests::turnsIn);
        check.test("promise 21: borderIn follows the quarters", TableTests::borderIn);
        check.test("promise 22: emptyCells", TableTests::emptyCells);
        check.test("promise 24: matches, whether it could be laid or not", TableTests::matches);
        check.test("promise 24: matches refuses", TableTests::matchesRefusals);
        check.test("promise 25: waysToPut", TableTests::waysToPut);
        check.test("promises 26 and 27: completions of equal sheets", TableTests::completionsEqual);
        check.test("promises 26 and 27: completions that must match", TableTests::completionsMatching);
        check.test("promises 26 and 27: only sheets that can be laid", TableTests::completionsUsable);
        check.test("promises 26 and 27: more than 3 empty cells", TableTests::completionsRefusals);
        check.test("promise 31: pointsOf a sea", TableTests::pointsOfSea);
        check.test("promise 31: pointsOf a land", TableTests::pointsOfLand);
        check.test("promise 31: pointsOf a city, not below 0", TableTests::pointsOfCity);
        check.test("promise 31: pointsOf refuses", TableTests::pointsOfRefusals);
        check.test("promises 32 and 33: points both ways", TableTests::pointsBothWays);
        check.test("promise 34: groupSize", TableTests::groupSize);
        check.test("promises 35 and 36: groups both ways", TableTests::groupsBothWays);
        check.test("promise 37: matchedBorders", TableTests::matchedBorders);
    }

    /** A hall with sheets of these kinds whose borders are all 0. */
    static MapHall withKinds(String kinds) {
        MapHall hall = new MapHall();
        for (char kind : kinds.toCharArray()) {
            hall.addSheet(0, 0, 0, 0, kind);
        }
        return hall;
    }

    /** Lays a sheet for each letter of the nine; a point leaves a cell empty. */
    static MapHall laid(String table) {
        MapHall hall = withKinds(table.replace(".", ""));
        int sheet = 0;
        for (int cell = 0; cell < 9; cell++) {
            if (table.charAt(cell) != '.') {
                hall.put(sheet, cell, 0);
                sheet++;
            }
        }
        return hall;
    }

    private static void putNeighbours() {
        MapHall hall = withKinds("sssssssss");
        int[] cells = {4, 0, 8, 1, 5, 3, 7, 2, 6};
        int[] due = {0, 0, 0, 2, 2, 2, 2, 2, 2};
        for (int sheet = 0; sheet < 9; sheet++) {
            Check.same(due[sheet], hall.put(sheet, cells[sheet], sheet % 4));
            Check.same(sheet, hall.sheetIn(cells[sheet]));
        }
        MapHall last = withKinds("sssss");
        for (int sheet = 0; sheet < 4; sheet++) {
            Check.same(0, last.put(sheet, 2 * sheet + 1, 0));
        }
        Check.same(4, last.put(4, 4, 0));
        MapHall rows = withKinds("ss");
        rows.put(0, 2, 0);
        Check.same(0, rows.put(1, 3, 0));
    }

    private static void putRefusals() {
        MapHall hall = withKinds("ss");
        hall.addSheet(1, 1, 1, 1, 's');
        SheetTests.addCreases(hall, 1, "vvvvv");
        hall.put(0, 0, 0);
        for (int bad : NO_CELL) {
            Check.refuses(IndexOutOfBoundsException.class, () -> hall.put(1, bad, 0));
            Check.refuses(IndexOutOfBoundsException.class, () -> hall.put(1, bad, 4));
            Check.refuses(IndexOutOfBoundsException.class, () -> hall.put(bad, 1, 0));
        }
        for (int bad : NO_TURNS) {
            Check.refuses(IllegalArgumentException.class, () -> hall.put(1, 1, bad));
            Check.refuses(IllegalArgumentException.class, () -> hall.put(0, 0, bad));
        }
        Check.refuses(IllegalStateException.class, () -> hall.put(0, 8, 0));
        Check.refuses(IllegalStateException.class, () -> hall.put(1, 0, 0));
        Check.refuses(IllegalStateException.class, () -> hall.put(2, 0, 0));
        Check.refuses(UnsupportedOperationException.class, () -> hall.put(2, 1, 0));
        hall.addCrease(2, 'v');
        hall.fold(2);
        Check.refuses(IllegalStateException.class, () -> hall.put(2, 1, 0));
        Check.refuses(IllegalStateException.class, () -> hall.put(2, 8, 0));
        hall.fold(1);
        hall.unfold(1);
        Check.refuses(IllegalStateException.class, () -> hall.put(1, 1, 0));
        Check.same(8, hall.emptyCells());
    }

    private static void putFourSides() {
        for (int side = 0; side < 4; side++) {
            MapHall hall = new MapHall();
            int[] codes = {1, 1, 1, 1};
            codes[side] = 2;
            hall.addSheet(codes[0], codes[1], codes[2], codes[3], 's');
            hall.addSheet(1, 1, 1, 1, 's');
            hall.put(0, 4, 0);
            int[] beside = {1, 5, 7, 3};
            for (int other = 0; other < 4; other++) {
                int cell = beside[other];
                if (other == side) {
                    Check.refuses(UnsupportedOperationException.class, () -> hall.put(1, cell, 0));
                } else {
                    Check.same(1, hall.put(1, cell, 0));
                    hall.take(cell);
                }
            }
        }
    }

    private static void take() {
        MapHall hall = withKinds("ss");
        hall.put(1, 0, 2);
        hall.put(0, 8, 2);
        Check.same(1, hall.take(0));
        Check.refuses(NoSuchElementException.class, () -> hall.take(0));
        Check.refuses(NoSuchElementException.class, () -> hall.cellOf(1));
        Check.same(8, hall.cellOf(0));
        for (int bad : NO_CELL) {
            Check.refuses(IndexOutOfBoundsException.class, () -> hall.take(bad));
        }
        Check.same(0, hall.put(1, 0, 0));
        Check.same(0, hall.take(8));
        Check.same(8, hall.emptyCells());
    }

    private static void cellOf() {
        MapHall hall = withKinds("ss");
        hall.put(1, 0, 0);
        Check.same(0, hall.cellOf(1));
        Check.refuses(NoSuchElementException.class, () -> hall.cellOf(0));
        for (int bad : new int[] {-1, 2, Integer.MIN_VALUE, Integer.MAX_VALUE}) {
            Check.refuses(IndexOutOfBoundsException.class, () -> hall.cellOf(bad));
        }
        hall.take(0);
        hall.put(1, 8, 0);
        Check.same(8, hall.cellOf(1));
    }

    private static void sheetIn() {
        MapHall hall = withKinds("ss");
        hall.put(1, 8, 0);
        Check.same(1, hall.sheetIn(8));
        Check.refuses(NoSuchElementException.class, () -> hall.sheetIn(0));
        for (int bad : NO_CELL) {
            Check.refuses(IndexOutOfBoundsException.class, () -> hall.sheetIn(bad));
        }
    }

    private static void turnsIn() {
        MapHall hall = withKinds("ssss");
        for (int turns = 0; turns < 4; turns++) {
            hall.put(turns, 2 * turns, turns);
            Check.same(turns, hall.turnsIn(2 * turns));
        }
        Check.refuses(NoSuchElementException.class, () -> hall.turnsIn(1));
        for (int bad : NO_CELL) {
            Check.refuses(IndexOutOfBoundsException.class, () -> hall.turnsIn(bad));
        }
    }

    private static void borderIn() {
        MapHall hall = new MapHall();
        hall.addSheet(1, 2, 3, 4, 's');
        int[][] due = {{1, 2, 3, 4}, {4, 1, 2, 3}, {3, 4, 1, 2}, {2, 3, 4, 1}};
        for (int turns = 0; turns < 4; turns++) {
            hall.put(0, 5, turns);
            for (int side = 0; side < 4; side++) {
                Check.same(due[turns][side], hall.borderIn(5, side));
            }
            hall.take(5);
        }
        for (int bad : NO_TURNS) {
            Check.refuses(IllegalArgumentException.class, () -> hall.borderIn(5, bad));
        }
        for (int bad : NO_CELL) {
            Check.refuses(IndexOutOfBoundsException.class, () -> hall.borderIn(bad, 4));
            Check.refuses(IndexOutOfBoundsException.class, () -> hall.borderIn(bad, 0));
        }
        Check.refuses(NoSuchElementException.class, () -> hall.borderIn(5, 0));
    }

    private static void emptyCells() {
        MapHall hall = withKinds("sssssssss");
        for (int sheet = 0; sheet < 9; sheet++) {
            Check.same(9 - sheet, hall.emptyCells());
            hall.put(sheet, sheet, 0);
        }
        Check.same(0, hall.emptyCells());
        hall.take(3);
        Check.same(1, hall.emptyCells());
    }

    private static void matches() {
        MapHall hall = new MapHall();
        hall.addSheet(1, 2, 3, 4, 's');
        hall.addSheet(5, 6, 7, 2, 's');
        Check.same(true, hall.matches(1, 1, 2));
        hall.put(0, 0, 0);
        Check.same(true, hall.matches(1, 1, 0));
        Check.same(false, hall.matches(1, 1, 1));
        Check.same(false, hall.matches(1, 3, 0));
        Check.same(true, hall.matches(1, 4, 3));
        SheetTests.addCreases(hall, 1, "vvvvv");
        hall.fold(1);
        Check.same(true, hall.matches(1, 1, 0));
        hall.unfold(1);
        Check.same(true, hall.isTorn(1));
        Check.same(true, hall.matches(1, 1, 0));
        Check.same(false, hall.matches(1, 1, 3));
    }

    private static void matchesRefusals() {
        MapHall hall = withKinds("ss");
        hall.put(0, 0, 0);
        for (int bad : NO_CELL) {
            Check.refuses(IndexOutOfBoundsException.class, () -> hall.matches(1, bad, 4));
            Check.refuses(IndexOutOfBoundsException.class, () -> hall.matches(bad, 1, 4));
        }
        for (int bad : NO_TURNS) {
            Check.refuses(IllegalArgumentException.class, () -> hall.matches(0, 0, bad));
            Check.refuses(IllegalArgumentException.class, () -> hall.matches(1, 1, bad));
        }
        Check.refuses(IllegalStateException.class, () -> hall.matches(1, 0, 0));
        Check.refuses(IllegalStateException.class, () -> hall.matches(0, 1, 0));
    }

    private static void waysToPut() {
        MapHall hall = new MapHall();
        hall.addSheet(1, 1, 1, 1, 's');
        hall.addSheet(1, 2, 3, 4, 's');
        Check.same(36, hall.waysToPut(1));
        hall.put(0, 4, 0);
        // Four cells without a neighbour; in the other four one number of quarters matches.
        Check.same(4 * 4 + 4, hall.waysToPut(1));
        Check.same(0, hall.waysToPut(0));
        SheetTests.addCreases(hall, 1, "vvvvv");
        hall.fold(1);
        Check.same(0, hall.waysToPut(1));
        hall.unfold(1);
        Check.same(0, hall.waysToPut(1));
        hall.addPaste(5);
        hall.mend(1);
        Check.same(20, hall.waysToPut(1));
        hall.addCrease(1, 'v');
        for (int bad : new int[] {-1, 2, Integer.MIN_VALUE, Integer.MAX_VALUE}) {
            Check.refuses(IndexOutOfBoundsException.class, () -> hall.waysToPut(bad));
        }
    }

    private static void bothCompletions(int due, MapHall hall) {
        Check.same(due, hall.completions());
        Check.same(due, hall.completionsBackwards());
    }

    private static void completionsEqual() {
        MapHall hall = laid("sssssssss");
        bothCompletions(1, hall);
        hall.take(4);
        bothCompletions(4, hall);
        hall.take(0);
        bothCompletions(2 * 16, hall);
        hall.take(8);
        bothCompletions(6 * 64, hall);
        Check.same(3, hall.emptyCells());
    }

    private static void completionsMatching() {
        MapHall hall = withKinds("sssssss");
        hall.addSheet(0, 0, 0, 5, 's');
        hall.addSheet(5, 0, 0, 0, 's');
        int[] cells = {0, 3, 4, 5, 6, 7, 8};
        for (int sheet = 0; sheet < 7; sheet++) {
            hall.put(sheet, cells[sheet], 0);
        }
        // Cells 1 and 2 are left for two sheets with a 5, which may lie either way round.
        // The 5 in cell 1 points north, with that in cell 2 north or east, or both at each other.
        bothCompletions(2 * 3, hall);
    }

    private static void completionsUsable() {
        MapHall hall = laid("sssssss..");
        bothCompletions(0, hall);
        hall.addSheet(0, 0, 0, 0, 's');
        bothCompletions(0, hall);
        hall.addSheet(0, 0, 0, 0, 's');
        bothCompletions(32, hall);
        SheetTests.addCreases(hall, 8, "vvvvv");
        bothCompletions(32, hall);
        hall.fold(8);
        bothCompletions(0, hall);
        hall.unfold(8);
        bothCompletions(0, hall);
        hall.addPaste(5);
        hall.mend(8);
        bothCompletions(32, hall);
        hall.undo();
        bothCompletions(0, hall);
    }

    private static void completionsRefusals() {
        MapHall hall = laid("sssss....");
        Check.refuses(UnsupportedOperationException.class, hall::completions);
        Check.refuses(UnsupportedOperationException.class, hall::completionsBackwards);
        MapHall empty = new MapHall();
        Check.refuses(UnsupportedOperationException.class, empty::completions);
        Check.refuses(UnsupportedOperationException.class, empty::completionsBackwards);
    }

    private static void pointsOfSea() {
        MapHall hall = laid(".s.sssls.");
        Check.same(5, hall.pointsOf(4));
        Check.same(2, hall.pointsOf(1));
        Check.same(2, hall.pointsOf(3));
        Check.same(1, laid("sl.c.....").pointsOf(0));
    }

    private static void pointsOfLand() {
        MapHall hall = laid(".s.clc.l.");
        Check.same(5, hall.pointsOf(4));
        Check.same(2, hall.pointsOf(7));
        Check.same(2, laid("l........").pointsOf(0));
    }

    private static void pointsOfCity() {
        Check.same(6, laid("c........").pointsOf(0));
        Check.same(6, laid("cs.l.....").pointsOf(0));
        Check.same(4, laid("cc.......").pointsOf(0));
        Check.same(2, laid("cc.c.....").pointsOf(0));
        MapHall three = laid(".c.cc..c.");
        Check.same(0, three.pointsOf(4));
        MapHall four = laid(".c.ccc.c.");
        Check.same(0, four.pointsOf(4));
        Check.same(4, four.pointsOf(1));
    }

    private static void pointsOfRefusals() {
        MapHall hall = laid("c........");
        for (int bad : NO_CELL) {
            Check.refuses(IndexOutOfBoundsException.class, () -> hall.pointsOf(bad));
        }
        Check.refuses(NoSuchElementException.class, () -> hall.pointsOf(1));
    }

    private static void bothPoints(int due, String table) {
        MapHall hall = laid(table);
        Check.same(due, hall.points());
        Check.same(due, hall.pointsByPairs());
    }

    private static void pointsBothWays() {
        bothPoints(0, ".........");
        Check.same(0, withKinds("slc").points());
        Check.same(0, withKinds("slc").pointsByPairs());
        bothPoints(9 + 2 * 12, "sssssssss");
        bothPoints(18, "lllllllll");
        bothPoints(4 * 2, "ccccccccc");
        bothPoints(4 * 4, ".c.ccc.c.");
        bothPoints(3 + 1, "ls.......");
        bothPoints(3 + 6, "lc.......");
        bothPoints(1 + 6, "sc.......");
        bothPoints(4, "ll.......");
        // Rows end at the edge: cells 2 and 3 are no neighbours.
        bothPoints(2, "..ss.....");
        // Seas 2 + 2 + 1, lands 4 + 5, cities 6 + 6 + 6.
        bothPoints(5 + 9 + 18, "sclslcc.s");
    }

    private static void groupSize() {
        MapHall hall = laid("ss.s..s.c");
        Check.same(4, hall.groupSize(0));
        Check.same(4, hall.groupSize(1));
        Check.same(4, hall.groupSize(3));
        Check.same(4, hall.groupSize(6));
        Check.same(1, hall.groupSize(8));
        Check.same(8, laid("sscs.clll").groupSize(0));
        Check.same(9, laid("sscsscsss").groupSize(8));
        Check.same(7, laid("sss..ssss").groupSize(0));
        Check.refuses(NoSuchElementException.class, () -> hall.groupSize(4));
        for (int bad : NO_CELL) {
            Check.refuses(IndexOutOfBoundsException.class, () -> hall.groupSize(bad));
        }
    }

    private static void bothGroups(int due, String table) {
        MapHall hall = laid(table);
        Check.same(due, hall.groups());
        Check.same(due, hall.groupsByJoining());
    }

    private static void groupsBothWays() {
        bothGroups(0, ".........");
        bothGroups(1, "....s....");
        bothGroups(5, "s.l.c.s.l");
        bothGroups(4, ".s.s.s.s.");
        bothGroups(1, "sssssssss");
        bothGroups(1, "sss.s.sss");
        bothGroups(2, "sss...sss");
        bothGroups(2, "s.ss.ss.s");
        bothGroups(2, "..ss.....");
        bothGroups(1, "s.ss.ssss");
    }

    private static void matchedBorders() {
        Check.same(0, new MapHall().matchedBorders());
        Check.same(0, laid("s.s.s.s.s").matchedBorders());
        Check.same(12, laid("sssssssss").matchedBorders());
        Check.same(4, laid(".s.sss.s.").matchedBorders());
        Check.same(0, laid("..ss.....").matchedBorders());
        Check.same(8, laid("ssss.ssss").matchedBorders());
    }
}
