import java.util.NoSuchElementException;

/** A sorting hall for map sheets. */
public final class MapHall {
    private static final int MAX_SHEETS = 9;
    private static final int CELLS = 9;
    private static final int ROW = 3;
    private static final int SIDES = 4;
    private static final int NORTH = 0;
    private static final int EAST = 1;
    private static final int SOUTH = 2;
    private static final int MAX_CODE = 9;
    private static final int MAX_CREASES = 6;
    private static final int MAX_WEAR = 9;
    private static final int TORN_FROM = 5;
    private static final int MAX_PASTE = 50;
    private static final int MAX_AMOUNT = 20;
    private static final int MAX_EMPTY_TO_COMPLETE = 3;
    private static final int MAX_INPUT = 60;
    private static final int MAX_UNDO = 8;
    // Kind, four borders, a bar, the creases, the wear and the sign of a folded sheet.
    private static final int MAX_OUTPUT = 1 + SIDES + 1 + MAX_CREASES + MAX_WEAR + 1;

    private static final char SEA = 's';
    private static final char LAND = 'l';
    private static final char CITY = 'c';
    private static final char VALLEY = 'v';
    private static final char MOUNTAIN = 'm';

    private static final int NONE = -1;

    // Why a change is refused. All are negative, so that no answer of a change is taken for one.
    private static final int NO_SUCH_INDEX = -1;
    private static final int BAD_ARGUMENT = -2;
    private static final int WRONG_STATE = -3;
    private static final int NOT_POSSIBLE = -4;
    private static final int NOTHING_THERE = -5;

    private static final Form[] FORMS = Form.values();

    private final State state = new State();
    private final State saved = new State();
    private boolean hasSaved;
    private final History history = new History();
    private final Groups tableGroups = new Groups();
    private final Stacks stacks = new Stacks();
    private final Script script = new Script();
    private final Output output = new Output();
    private int malformedAt = NONE;
    private int failedAt = NONE;

    public MapHall() {
    }

    public int addSheet(int north, int east, int south, int west, char kind)
            throws IllegalArgumentException, IllegalStateException {
        history.prepare(state);
        return recorded(state.tryAddSheet(north, east, south, west, kind));
    }

    public int addCrease(int sheet, char crease)
            throws IndexOutOfBoundsException, IllegalArgumentException, IllegalStateException {
        history.prepare(state);
        return recorded(state.tryAddCrease(sheet, crease));
    }

    public int fold(int sheet) throws IndexOutOfBoundsException, IllegalStateException {
        history.prepare(state);
        return recorded(state.tryFold(sheet));
    }

    public int unfold(int sheet) throws IndexOutOfBoundsException, IllegalStateException {
        history.prepare(state);
        return recorded(state.tryUnfold(sheet));
    }

    public int mend(int sheet)
            throws IndexOutOfBoundsException, IllegalStateException, UnsupportedOperationException {
        history.prepare(state);
        return recorded(state.tryMend(sheet));
    }

    public int put(int sheet, int cell, int turns)
            throws IndexOutOfBoundsException, IllegalArgumentException, IllegalStateException,
            UnsupportedOperationException {
        history.prepare(state);
        return recorded(state.tryPut(sheet, cell, turns));
    }

    public int take(int cell) throws IndexOutOfBoundsException, NoSuchElementException {
        history.prepare(state);
        return recorded(state.tryTake(cell));
    }

    public int addPaste(int amount) throws IllegalArgumentException, IllegalStateException {
        history.prepare(state);
        return recorded(state.tryAddPaste(amount));
    }

    public int sheetCount() {
        return state.sheetTotal;
    }

    public char kind(int sheet) throws IndexOutOfBoundsException {
        return demandedSheet(sheet).type;
    }

    public int border(int sheet, int side) throws IndexOutOfBoundsException, IllegalArgumentException {
        Sheet asked = demandedSheet(sheet);
        demandSide(side);
        return asked.borderWhenTurned(side, 0);
    }

    public int wear(int sheet) throws IndexOutOfBoundsException {
        return demandedSheet(sheet).worn;
    }

    public boolean isTorn(int sheet) throws IndexOutOfBoundsException {
        return demandedSheet(sheet).torn();
    }

    public boolean isFolded(int sheet) throws IndexOutOfBoundsException {
        return demandedSheet(sheet).folded;
    }

    public int creaseCount(int sheet) throws IndexOutOfBoundsException {
        return demandedSheet(sheet).creaseTotal;
    }

    public char crease(int sheet, int index) throws IndexOutOfBoundsException {
        Sheet asked = demandedSheet(sheet);
        if (index < 0 || index >= asked.creaseTotal) {
            throw new IndexOutOfBoundsException("no such crease");
        }
        return asked.creases[index];
    }

    public int cellOf(int sheet) throws IndexOutOfBoundsException, NoSuchElementException {
        Sheet asked = demandedSheet(sheet);
        if (!asked.onTable()) {
            throw new NoSuchElementException("the sheet does not lie on the table");
        }
        return asked.cell;
    }

    public int sheetIn(int cell) throws IndexOutOfBoundsException, NoSuchElementException {
        demandCell(cell);
        demandOccupied(cell);
        return state.occupant[cell];
    }

    public int turnsIn(int cell) throws IndexOutOfBoundsException, NoSuchElementException {
        demandCell(cell);
        demandOccupied(cell);
        return state.sheetLaidIn(cell).turns;
    }

    public int borderIn(int cell, int side)
            throws IndexOutOfBoundsException, IllegalArgumentException, NoSuchElementException {
        demandCell(cell);
        demandSide(side);
        demandOccupied(cell);
        return state.sheetLaidIn(cell).borderAsLaid(side);
    }

    public int emptyCells() {
        return state.countEmpty();
    }

    public int paste() {
        return state.pasteLeft;
    }

    public boolean matches(int sheet, int cell, int turns)
            throws IndexOutOfBoundsException, IllegalArgumentException, IllegalStateException {
        Sheet asked = demandedSheet(sheet);
        demandCell(cell);
        if (!isTurns(turns)) {
            throw new IllegalArgumentException("no such number of quarters");
        }
        if (state.isOccupied(cell) || asked.onTable()) {
            throw new IllegalStateException("the cell is not empty, or the sheet lies on the table");
        }
        return state.fits(asked, cell, turns);
    }

    public int waysToPut(int sheet) throws IndexOutOfBoundsException {
        Sheet asked = demandedSheet(sheet);
        return asked.canBeLaid() ? state.countPlaces(asked) : 0;
    }

    public int completions() throws UnsupportedOperationException {
        demandFewEmptyCells();
        return waysFrom(state, 0, false);
    }

    public int completionsBackwards() throws UnsupportedOperationException {
        demandFewEmptyCells();
        return waysFrom(state, 0, true);
    }

    public int foldings(int sheet) throws IndexOutOfBoundsException {
        return stacks.countByAdding(demandedSheet(sheet), NONE);
    }

    public int foldingsByPermutations(int sheet) throws IndexOutOfBoundsException {
        return stacks.countByPermutations(demandedSheet(sheet));
    }

    public boolean canBeOnTop(int sheet, int panel) throws IndexOutOfBoundsException {
        Sheet asked = demandedSheet(sheet);
        if (panel < 0 || panel > asked.creaseTotal) {
            throw new IndexOutOfBoundsException("no such panel");
        }
        return stacks.countByAdding(asked, panel) > 0;
    }

    public int pointsOf(int cell) throws IndexOutOfBoundsException, NoSuchElementException {
        demandCell(cell);
        demandOccupied(cell);
        return Points.inCell(state, cell);
    }

    public int points() {
        return Points.sheetBySheet(state);
    }

    public int pointsByPairs() {
        return Points.pairByPair(state);
    }

    public int groupSize(int cell) throws IndexOutOfBoundsException, NoSuchElementException {
        demandCell(cell);
        demandOccupied(cell);
        return Integer.bitCount(Groups.cellsConnectedTo(state, cell));
    }

    public int groups() {
        return Groups.countByFilling(state);
    }

    public int groupsByJoining() {
        return tableGroups.countByJoining(state);
    }

    public int matchedBorders() {
        return state.countNeighbourPairs();
    }

    public int sheetByWear(int rank) throws NoSuchElementException {
        if (rank < 0 || rank >= state.sheetTotal) {
            throw new NoSuchElementException("no such rank");
        }
        return state.sheetAtRank(rank);
    }

    public int foldCount() {
        return state.foldTotal;
    }

    public int usedPaste() {
        return state.pasteSpent;
    }

    public double meanWear() throws ArithmeticException {
        if (state.sheetTotal == 0) {
            throw new ArithmeticException("there are no sheets");
        }
        return (double) state.sumOfWear() / (double) state.sheetTotal;
    }

    public float coveredShare() {
        return (float) (CELLS - state.countEmpty()) / 9.0f;
    }

    public boolean isConsistent() {
        return state.neighboursAgree()
                && Points.sheetBySheet(state) == Points.pairByPair(state)
                && Groups.countByFilling(state) == tableGroups.countByJoining(state)
                && countsOfStacksAgree();
    }

    public int feed(char character) throws IllegalStateException {
        if (script.isFull()) {
            throw new IllegalStateException("the input buffer is full");
        }
        script.append(character);
        return script.length;
    }

    public int runCommands() throws IllegalArgumentException, UnsupportedOperationException {
        int wrong = script.read();
        if (wrong != NONE) {
            malformedAt = wrong;
            script.empty();
            throw new IllegalArgumentException("the text is malformed");
        }
        history.prepare(state);
        int failed = carryOutAll();
        script.empty();
        if (failed != NONE) {
            failedAt = failed;
            history.returnToPrepared(state);
            throw new UnsupportedOperationException("a command failed");
        }
        history.keepPrepared();
        return script.commandTotal;
    }

    public int errorPosition() throws NoSuchElementException {
        if (malformedAt == NONE) {
            throw new NoSuchElementException("no text was malformed");
        }
        return malformedAt;
    }

    public int failedCommand() throws NoSuchElementException {
        if (failedAt == NONE) {
            throw new NoSuchElementException("no command failed");
        }
        return failedAt;
    }

    public int writeTable() {
        output.describeTable(state);
        return output.length;
    }

    public int writeSheet(int sheet) throws IndexOutOfBoundsException {
        output.describeSheet(demandedSheet(sheet));
        return output.length;
    }

    public char outputChar(int index) throws IndexOutOfBoundsException {
        if (index < 0 || index >= output.length) {
            throw new IndexOutOfBoundsException("no such character of the output");
        }
        return output.signs[index];
    }

    public int undoCount() {
        return history.kept;
    }

    public int undo() throws IllegalStateException {
        if (history.kept == 0) {
            throw new IllegalStateException("no call can be undone");
        }
        history.stepBack(state);
        return history.kept;
    }

    public int save() {
        saved.copyFrom(state);
        hasSaved = true;
        return state.sheetTotal;
    }

    public int restore() throws IllegalStateException {
        if (!hasSaved) {
            throw new IllegalStateException("no state was saved");
        }
        state.copyFrom(saved);
        history.forget();
        return state.sheetTotal;
    }

    private int recorded(int answer) {
        if (answer < 0) {
            throwRefusal(answer);
        }
        history.keepPrepared();
        return answer;
    }

    private static void throwRefusal(int refusal) {
        switch (refusal) {
            case NO_SUCH_INDEX:
                throw new IndexOutOfBoundsException("no such sheet or cell");
            case BAD_ARGUMENT:
                throw new IllegalArgumentException("an argument is out of range");
            case WRONG_STATE:
                throw new IllegalStateException("the state does not allow this");
            case NOT_POSSIBLE:
                throw new UnsupportedOperationException("too little paste, or the sheet does not match");
            default:
                throw new NoSuchElementException("the cell is empty");
        }
    }

    private Sheet demandedSheet(int sheet) {
        if (!state.hasSheet(sheet)) {
            throw new IndexOutOfBoundsException("no such sheet");
        }
        return state.sheets[sheet];
    }

    private static void demandCell(int cell) {
        if (!isCell(cell)) {
            throw new IndexOutOfBoundsException("no such cell");
        }
    }

    private static void demandSide(int side) {
        if (side < 0 || side >= SIDES) {
            throw new IllegalArgumentException("no such side");
        }
    }

    private void demandOccupied(int cell) {
        if (!state.isOccupied(cell)) {
            throw new NoSuchElementException("the cell is empty");
        }
    }

    private void demandFewEmptyCells() {
        if (state.countEmpty() > MAX_EMPTY_TO_COMPLETE) {
            throw new UnsupportedOperationException("too many cells are empty");
        }
    }

    private boolean countsOfStacksAgree() {
        for (int sheet = 0; sheet < state.sheetTotal; sheet++) {
            Sheet asked = state.sheets[sheet];
            if (stacks.countByAdding(asked, NONE) != stacks.countByPermutations(asked)) {
                return false;
            }
        }
        return true;
    }

    /** Answers the index of the first command that is refused, or NONE. */
    private int carryOutAll() {
        for (int command = 0; command < script.commandTotal; command++) {
            if (answerOfCommand(command) < 0) {
                return command;
            }
        }
        return NONE;
    }

    private int answerOfCommand(int command) {
        int first = script.numberIn(command, 0);
        int second = script.numberIn(command, 1);
        int third = script.numberIn(command, 2);
        switch (FORMS[script.formOf[command]]) {
            case SHEET:
                return state.tryAddSheet(first, second, third, script.numberIn(command, 3),
                        script.signIn(command, 4));
            case CREASE:
                return state.tryAddCrease(first, script.signIn(command, 1));
            case FOLD:
                return state.tryFold(first);
            case OPEN:
                return state.tryUnfold(first);
            case MEND:
                return state.tryMend(first);
            case PUT:
                return state.tryPut(first, second, third);
            case TAKE:
                return state.tryTake(first);
            case SHORT_PASTE:
                return state.tryAddPaste(first);
            default:
                return state.tryAddPaste(10 * first + second);
        }
    }

    /** Counts the ways to fill the cells that are left when the first ones in the order are passed. */
    private static int waysFrom(State state, int passed, boolean backwards) {
        if (passed >= CELLS) {
            return 1;
        }
        int cell = backwards ? CELLS - 1 - passed : passed;
        if (state.isOccupied(cell)) {
            return waysFrom(state, passed + 1, backwards);
        }
        int ways = 0;
        for (int sheet = 0; sheet < state.sheetTotal; sheet++) {
            Sheet next = state.sheets[sheet];
            for (int turns = 0; turns < SIDES; turns++) {
                if (next.canBeLaid() && state.fits(next, cell, turns)) {
                    state.lay(sheet, cell, turns);
                    ways += waysFrom(state, passed + 1, backwards);
                    state.lift(cell);
                }
            }
        }
        return ways;
    }

    private static boolean isCell(int cell) {
        return cell >= 0 && cell < CELLS;
    }

    private static boolean isTurns(int turns) {
        return turns >= 0 && turns < SIDES;
    }

    private static boolean isCode(int code) {
        return code >= 0 && code <= MAX_CODE;
    }

    private static boolean isKind(char sign) {
        return sign == SEA || sign == LAND || sign == CITY;
    }

    private static boolean isCrease(char sign) {
        return sign == VALLEY || sign == MOUNTAIN;
    }

    /** Answers the cell beside a cell, or NONE at the edge of the table. */
    private static int neighbour(int cell, int side) {
        int column = cell % ROW;
        switch (side) {
            case NORTH:
                return cell >= ROW ? cell - ROW : NONE;
            case EAST:
                return column < ROW - 1 ? cell + 1 : NONE;
            case SOUTH:
                return cell < CELLS - ROW ? cell + ROW : NONE;
            default:
                return column > 0 ? cell - 1 : NONE;
        }
    }

    private static int opposite(int side) {
        return (side + 2) % SIDES;
    }

    private static final class Sheet {
        final int[] borders = new int[SIDES];
        final char[] creases = new char[MAX_CREASES];
        char type = SEA;
        int creaseTotal;
        int worn;
        boolean folded;
        int cell = NONE;
        int turns;

        /** The other fields are still as new: undo and restore put back all sheets, added or not. */
        void begin(int north, int east, int south, int west, char kindOfSheet) {
            borders[0] = north;
            borders[1] = east;
            borders[2] = south;
            borders[3] = west;
            type = kindOfSheet;
        }

        void copyFrom(Sheet other) {
            System.arraycopy(other.borders, 0, borders, 0, SIDES);
            System.arraycopy(other.creases, 0, creases, 0, MAX_CREASES);
            type = other.type;
            creaseTotal = other.creaseTotal;
            worn = other.worn;
            folded = other.folded;
            cell = other.cell;
            turns = other.turns;
        }

        boolean torn() {
            return worn >= TORN_FROM;
        }

        boolean onTable() {
            return cell != NONE;
        }

        boolean canBeLaid() {
            return !folded && !torn() && !onTable();
        }

        int borderWhenTurned(int side, int quarters) {
            return borders[Math.floorMod(side - quarters, SIDES)];
        }

        int borderAsLaid(int side) {
            return borderWhenTurned(side, turns);
        }
    }

    /** All that is undone and saved: the sheets, the table, the paste and the sums. */
    private static final class State {
        final Sheet[] sheets = new Sheet[MAX_SHEETS];
        final int[] occupant = new int[CELLS];
        int sheetTotal;
        int pasteLeft;
        int pasteSpent;
        int foldTotal;

        State() {
            for (int sheet = 0; sheet < MAX_SHEETS; sheet++) {
                sheets[sheet] = new Sheet();
            }
            for (int cell = 0; cell < CELLS; cell++) {
                occupant[cell] = NONE;
            }
        }

        void copyFrom(State other) {
            for (int sheet = 0; sheet < MAX_SHEETS; sheet++) {
                sheets[sheet].copyFrom(other.sheets[sheet]);
            }
            System.arraycopy(other.occupant, 0, occupant, 0, CELLS);
            sheetTotal = other.sheetTotal;
            pasteLeft = other.pasteLeft;
            pasteSpent = other.pasteSpent;
            foldTotal = other.foldTotal;
        }

        int tryAddSheet(int north, int east, int south, int west, char kindOfSheet) {
            if (!isCode(north) || !isCode(east) || !isCode(south) || !isCode(west)
                    || !isKind(kindOfSheet)) {
                return BAD_ARGUMENT;
            }
            if (sheetTotal >= MAX_SHEETS) {
                return WRONG_STATE;
            }
            int added = sheetTotal;
            sheets[added].begin(north, east, south, west, kindOfSheet);
            sheetTotal++;
            return added;
        }

        int tryAddCrease(int sheet, char sign) {
            if (!hasSheet(sheet)) {
                return NO_SUCH_INDEX;
            }
            if (!isCrease(sign)) {
                return BAD_ARGUMENT;
            }
            Sheet changed = sheets[sheet];
            if (changed.creaseTotal >= MAX_CREASES || changed.folded) {
                return WRONG_STATE;
            }
            changed.creases[changed.creaseTotal] = sign;
            changed.creaseTotal++;
            return changed.creaseTotal;
        }

        int tryFold(int sheet) {
            if (!hasSheet(sheet)) {
                return NO_SUCH_INDEX;
            }
            Sheet changed = sheets[sheet];
            if (changed.folded || changed.creaseTotal == 0 || changed.onTable()) {
                return WRONG_STATE;
            }
            changed.folded = true;
            changed.worn = Math.min(MAX_WEAR, changed.worn + changed.creaseTotal);
            foldTotal++;
            return changed.worn;
        }

        int tryUnfold(int sheet) {
            if (!hasSheet(sheet)) {
                return NO_SUCH_INDEX;
            }
            if (!sheets[sheet].folded) {
                return WRONG_STATE;
            }
            sheets[sheet].folded = false;
            return countFlat();
        }

        int tryMend(int sheet) {
            if (!hasSheet(sheet)) {
                return NO_SUCH_INDEX;
            }
            Sheet changed = sheets[sheet];
            if (changed.worn == 0 || changed.folded) {
                return WRONG_STATE;
            }
            if (pasteLeft < changed.worn) {
                return NOT_POSSIBLE;
            }
            pasteLeft -= changed.worn;
            pasteSpent += changed.worn;
            changed.worn = 0;
            return pasteLeft;
        }

        int tryPut(int sheet, int cell, int turns) {
            if (!hasSheet(sheet) || !isCell(cell)) {
                return NO_SUCH_INDEX;
            }
            if (!isTurns(turns)) {
                return BAD_ARGUMENT;
            }
            if (!sheets[sheet].canBeLaid() || isOccupied(cell)) {
                return WRONG_STATE;
            }
            if (!fits(sheets[sheet], cell, turns)) {
                return NOT_POSSIBLE;
            }
            lay(sheet, cell, turns);
            return countBeside(cell);
        }

        int tryTake(int cell) {
            if (!isCell(cell)) {
                return NO_SUCH_INDEX;
            }
            if (!isOccupied(cell)) {
                return NOTHING_THERE;
            }
            int taken = occupant[cell];
            lift(cell);
            return taken;
        }

        int tryAddPaste(int amount) {
            if (amount < 1 || amount > MAX_AMOUNT) {
                return BAD_ARGUMENT;
            }
            if (pasteLeft + amount > MAX_PASTE) {
                return WRONG_STATE;
            }
            pasteLeft += amount;
            return pasteLeft;
        }

        boolean hasSheet(int sheet) {
            return sheet >= 0 && sheet < sheetTotal;
        }

        boolean isOccupied(int cell) {
            return occupant[cell] != NONE;
        }

        /** The cell must be occupied. */
        Sheet sheetLaidIn(int cell) {
            return sheets[occupant[cell]];
        }

        void lay(int sheet, int cell, int turns) {
            occupant[cell] = sheet;
            sheets[sheet].cell = cell;
            sheets[sheet].turns = turns;
        }

        /** The cell must be occupied. */
        void lift(int cell) {
            sheetLaidIn(cell).cell = NONE;
            occupant[cell] = NONE;
        }

        boolean isOccupiedBeside(int cell, int side) {
            int next = neighbour(cell, side);
            return next != NONE && isOccupied(next);
        }

        int countBeside(int cell) {
            int count = 0;
            for (int side = 0; side < SIDES; side++) {
                if (isOccupiedBeside(cell, side)) {
                    count++;
                }
            }
            return count;
        }

        int countKindBeside(int cell, char type) {
            int count = 0;
            for (int side = 0; side < SIDES; side++) {
                if (isOccupiedBeside(cell, side)
                        && sheetLaidIn(neighbour(cell, side)).type == type) {
                    count++;
                }
            }
            return count;
        }

        boolean fits(Sheet sheet, int cell, int turns) {
            for (int side = 0; side < SIDES; side++) {
                if (isOccupiedBeside(cell, side)) {
                    Sheet other = sheetLaidIn(neighbour(cell, side));
                    if (sheet.borderWhenTurned(side, turns) != other.borderAsLaid(opposite(side))) {
                        return false;
                    }
                }
            }
            return true;
        }

        int countPlaces(Sheet sheet) {
            int count = 0;
            for (int cell = 0; cell < CELLS; cell++) {
                for (int turns = 0; turns < SIDES; turns++) {
                    if (!isOccupied(cell) && fits(sheet, cell, turns)) {
                        count++;
                    }
                }
            }
            return count;
        }

        int countEmpty() {
            int count = 0;
            for (int cell = 0; cell < CELLS; cell++) {
                if (!isOccupied(cell)) {
                    count++;
                }
            }
            return count;
        }

        int countFlat() {
            int count = 0;
            for (int sheet = 0; sheet < sheetTotal; sheet++) {
                if (!sheets[sheet].folded) {
                    count++;
                }
            }
            return count;
        }

        int countNeighbourPairs() {
            int count = 0;
            for (int cell = 0; cell < CELLS; cell++) {
                // Only two of the four sides, so that no pair is met twice.
                for (int side = EAST; side <= SOUTH; side++) {
                    if (isOccupied(cell) && isOccupiedBeside(cell, side)) {
                        count++;
                    }
                }
            }
            return count;
        }

        boolean neighboursAgree() {
            for (int cell = 0; cell < CELLS; cell++) {
                if (isOccupied(cell) && !fits(sheetLaidIn(cell), cell, sheetLaidIn(cell).turns)) {
                    return false;
                }
            }
            return true;
        }

        int sumOfWear() {
            int sum = 0;
            for (int sheet = 0; sheet < sheetTotal; sheet++) {
                sum += sheets[sheet].worn;
            }
            return sum;
        }

        int sheetAtRank(int rank) {
            for (int sheet = 0; sheet < sheetTotal; sheet++) {
                if (countBefore(sheet) == rank) {
                    return sheet;
                }
            }
            return NONE;
        }

        private int countBefore(int sheet) {
            int count = 0;
            for (int other = 0; other < sheetTotal; other++) {
                if (comesBefore(other, sheet)) {
                    count++;
                }
            }
            return count;
        }

        private boolean comesBefore(int one, int other) {
            Sheet first = sheets[one];
            Sheet second = sheets[other];
            if (first.worn != second.worn) {
                return first.worn > second.worn;
            }
            if (first.creaseTotal != second.creaseTotal) {
                return first.creaseTotal > second.creaseTotal;
            }
            return one < other;
        }
    }

    private static final class Points {
        private static final int SEA_POINTS = 1;
        private static final int LAND_POINTS = 2;
        private static final int CITY_POINTS = 6;

        /** The cell must be occupied. */
        static int inCell(State state, int cell) {
            char type = state.sheetLaidIn(cell).type;
            if (type == SEA) {
                return SEA_POINTS + state.countKindBeside(cell, SEA);
            }
            if (type == LAND) {
                return LAND_POINTS + state.countBeside(cell) - state.countKindBeside(cell, LAND);
            }
            return ofCity(state, cell);
        }

        static int sheetBySheet(State state) {
            int sum = 0;
            for (int cell = 0; cell < CELLS; cell++) {
                if (state.isOccupied(cell)) {
                    sum += inCell(state, cell);
                }
            }
            return sum;
        }

        static int pairByPair(State state) {
            int sum = SEA_POINTS * countKind(state, SEA) + LAND_POINTS * countKind(state, LAND);
            for (int cell = 0; cell < CELLS; cell++) {
                if (state.isOccupied(cell)) {
                    sum += ofPair(state, cell, EAST) + ofPair(state, cell, SOUTH);
                    // The lower bound of a city's points can't be split among its pairs.
                    sum += state.sheetLaidIn(cell).type == CITY ? ofCity(state, cell) : 0;
                }
            }
            return sum;
        }

        private static int ofCity(State state, int cell) {
            return Math.max(0, CITY_POINTS - 2 * state.countKindBeside(cell, CITY));
        }

        /** What a pair adds for the seas and lands in it; the cell must be occupied. */
        private static int ofPair(State state, int cell, int side) {
            if (!state.isOccupiedBeside(cell, side)) {
                return 0;
            }
            char one = state.sheetLaidIn(cell).type;
            char other = state.sheetLaidIn(neighbour(cell, side)).type;
            if (one == SEA && other == SEA) {
                return 2;
            }
            return (one == LAND) != (other == LAND) ? 1 : 0;
        }

        private static int countKind(State state, char type) {
            int count = 0;
            for (int cell = 0; cell < CELLS; cell++) {
                if (state.isOccupied(cell) && state.sheetLaidIn(cell).type == type) {
                    count++;
                }
            }
            return count;
        }
    }

    private static final class Groups {
        private final int[] leaderOf = new int[CELLS];

        /** Answers a set of cells, one bit each; the cell must be occupied. */
        static int cellsConnectedTo(State state, int cell) {
            int group = 1 << cell;
            // Each round reaches at least one more cell of a group that is not yet whole.
            for (int round = 1; round < CELLS; round++) {
                group = withNeighbours(state, group);
            }
            return group;
        }

        private static int withNeighbours(State state, int group) {
            int grown = group;
            for (int cell = 0; cell < CELLS; cell++) {
                for (int side = 0; side < SIDES; side++) {
                    if (contains(group, cell) && state.isOccupiedBeside(cell, side)) {
                        grown |= 1 << neighbour(cell, side);
                    }
                }
            }
            return grown;
        }

        private static boolean contains(int group, int cell) {
            return (group >> cell & 1) == 1;
        }

        static int countByFilling(State state) {
            int filled = 0;
            int count = 0;
            for (int cell = 0; cell < CELLS; cell++) {
                if (state.isOccupied(cell) && !contains(filled, cell)) {
                    filled |= cellsConnectedTo(state, cell);
                    count++;
                }
            }
            return count;
        }

        int countByJoining(State state) {
            int count = CELLS - state.countEmpty();
            for (int cell = 0; cell < CELLS; cell++) {
                leaderOf[cell] = cell;
            }
            for (int cell = 0; cell < CELLS; cell++) {
                for (int side = EAST; side <= SOUTH; side++) {
                    if (state.isOccupied(cell) && state.isOccupiedBeside(cell, side)
                            && joined(leaderOf[cell], leaderOf[neighbour(cell, side)])) {
                        count--;
                    }
                }
            }
            return count;
        }

        /** Joins the sets of two leaders; answers whether they were two. */
        private boolean joined(int leader, int other) {
            if (leader == other) {
                return false;
            }
            for (int cell = 0; cell < CELLS; cell++) {
                if (leaderOf[cell] == other) {
                    leaderOf[cell] = leader;
                }
            }
            return true;
        }
    }

    /** The orders in which the panels of a sheet can lie; a panel's place counts from the bottom. */
    private static final class Stacks {
        private final int[] places = new int[MAX_CREASES + 1];

        /** Counts the orders with this panel on top, or all of them for NONE. */
        int countByAdding(Sheet sheet, int top) {
            return countFrom(sheet, places, 0, top);
        }

        int countByPermutations(Sheet sheet) {
            for (int panel = 0; panel <= sheet.creaseTotal; panel++) {
                places[panel] = panel;
            }
            return countPermutations(sheet, places, 0);
        }

        private static int countFrom(Sheet sheet, int[] places, int panel, int top) {
            if (panel > sheet.creaseTotal) {
                return top == NONE || places[top] == sheet.creaseTotal ? 1 : 0;
            }
            int count = 0;
            for (int place = 0; place <= panel; place++) {
                slideIn(places, panel, place);
                if (panel == 0 || isCreasePossible(sheet, places, panel - 1)) {
                    count += countFrom(sheet, places, panel + 1, top);
                }
                pullOut(places, panel);
            }
            return count;
        }

        private static void slideIn(int[] places, int panel, int place) {
            for (int other = 0; other < panel; other++) {
                if (places[other] >= place) {
                    places[other]++;
                }
            }
            places[panel] = place;
        }

        private static void pullOut(int[] places, int panel) {
            for (int other = 0; other < panel; other++) {
                if (places[other] > places[panel]) {
                    places[other]--;
                }
            }
        }

        private static int countPermutations(Sheet sheet, int[] places, int fixed) {
            if (fixed > sheet.creaseTotal) {
                return isPossible(sheet, places) ? 1 : 0;
            }
            int count = 0;
            for (int panel = fixed; panel <= sheet.creaseTotal; panel++) {
                swap(places, fixed, panel);
                count += countPermutations(sheet, places, fixed + 1);
                swap(places, fixed, panel);
            }
            return count;
        }

        private static void swap(int[] places, int one, int other) {
            int place = places[one];
            places[one] = places[other];
            places[other] = place;
        }

        private static boolean isPossible(Sheet sheet, int[] places) {
            for (int crease = 0; crease < sheet.creaseTotal; crease++) {
                if (!isCreasePossible(sheet, places, crease)) {
                    return false;
                }
            }
            return true;
        }

        /** Looks at one crease and at its crossings with the creases before it. */
        private static boolean isCreasePossible(Sheet sheet, int[] places, int crease) {
            boolean mustGoUp = (sheet.creases[crease] == VALLEY) == (crease % 2 == 0);
            if (places[crease + 1] > places[crease] != mustGoUp) {
                return false;
            }
            for (int earlier = crease - 2; earlier >= 0; earlier -= 2) {
                if (cross(places, crease, earlier)) {
                    return false;
                }
            }
            return true;
        }

        private static boolean cross(int[] places, int crease, int other) {
            int low = Math.min(places[crease], places[crease + 1]);
            int high = Math.max(places[crease], places[crease + 1]);
            return isBetween(places[other], low, high) != isBetween(places[other + 1], low, high);
        }

        private static boolean isBetween(int place, int low, int high) {
            return low < place && place < high;
        }
    }

    /** The states before the latest recorded calls, in a ring. */
    private static final class History {
        // One more than can be undone: a call that is then refused must not cost the oldest state.
        private static final int SLOTS = MAX_UNDO + 1;

        private final State[] slots = new State[SLOTS];
        private int next;
        int kept;

        History() {
            for (int slot = 0; slot < SLOTS; slot++) {
                slots[slot] = new State();
            }
        }

        void prepare(State state) {
            slots[next].copyFrom(state);
        }

        void keepPrepared() {
            next = (next + 1) % SLOTS;
            kept = Math.min(MAX_UNDO, kept + 1);
        }

        void returnToPrepared(State state) {
            state.copyFrom(slots[next]);
        }

        /** At least one state must be kept. */
        void stepBack(State state) {
            next = (next + SLOTS - 1) % SLOTS;
            kept--;
            state.copyFrom(slots[next]);
        }

        void forget() {
            kept = 0;
        }
    }

    /** The forms of a command: N stands for a digit, K for a kind, C for a crease. */
    private enum Form {
        SHEET("sheet NNNN K"),
        CREASE("crease N C"),
        FOLD("fold N"),
        OPEN("open N"),
        MEND("mend N"),
        PUT("put N N N"),
        TAKE("take N"),
        SHORT_PASTE("paste N"),
        LONG_PASTE("paste NN");

        private final String pattern;

        Form(String pattern) {
            this.pattern = pattern;
        }

        int size() {
            return pattern.length();
        }

        boolean accepts(char sign, int place) {
            if (place < 0 || place >= pattern.length()) {
                return false;
            }
            char wanted = pattern.charAt(place);
            if (wanted == 'N') {
                return sign >= '0' && sign <= '9';
            }
            if (wanted == 'K') {
                return isKind(sign);
            }
            if (wanted == 'C') {
                return isCrease(sign);
            }
            return sign == wanted;
        }

        /** Answers where the value of an index stands in a command, or NONE. */
        int placeOfValue(int index) {
            int passed = 0;
            for (int place = 0; place < pattern.length(); place++) {
                if (isValue(pattern.charAt(place))) {
                    if (passed == index) {
                        return place;
                    }
                    passed++;
                }
            }
            return NONE;
        }

        private static boolean isValue(char wanted) {
            return wanted == 'N' || wanted == 'K' || wanted == 'C';
        }
    }

    /** The input buffer, and the commands that were read from it. */
    private static final class Script {
        private final char[] text = new char[MAX_INPUT];
        private final int[] startOf = new int[MAX_INPUT];
        final int[] formOf = new int[MAX_INPUT];
        int length;
        int commandTotal;

        boolean isFull() {
            return length >= MAX_INPUT;
        }

        /** The buffer must not be full. */
        void append(char sign) {
            text[length] = sign;
            length++;
        }

        /** Leaves the commands that were read as they are. */
        void empty() {
            length = 0;
        }

        /** Reads the commands; answers the error position, or NONE for a well-formed text. */
        int read() {
            commandTotal = 0;
            int start = 0;
            int alive = allForms();
            for (int at = 0; at < length; at++) {
                if (text[at] == ';') {
                    if (!noteCommand(alive, start, at)) {
                        return at;
                    }
                    start = at + 1;
                    alive = allForms();
                } else {
                    alive = stillAlive(alive, text[at], at - start);
                    if (alive == 0) {
                        return at;
                    }
                }
            }
            return noteCommand(alive, start, length) ? NONE : length;
        }

        /** A set of forms has one bit for each. */
        private static int allForms() {
            return (1 << FORMS.length) - 1;
        }

        private static int stillAlive(int alive, char sign, int place) {
            int left = 0;
            for (int form = 0; form < FORMS.length; form++) {
                if ((alive >> form & 1) == 1 && FORMS[form].accepts(sign, place)) {
                    left |= 1 << form;
                }
            }
            return left;
        }

        private boolean noteCommand(int alive, int start, int end) {
            for (int form = 0; form < FORMS.length; form++) {
                if ((alive >> form & 1) == 1 && FORMS[form].size() == end - start) {
                    startOf[commandTotal] = start;
                    formOf[commandTotal] = form;
                    commandTotal++;
                    return true;
                }
            }
            return false;
        }

        /** Answers the sign of a value of a command, or a blank if it has no such value. */
        char signIn(int command, int value) {
            int place = FORMS[formOf[command]].placeOfValue(value);
            return place == NONE ? ' ' : text[startOf[command] + place];
        }

        int numberIn(int command, int value) {
            return signIn(command, value) - '0';
        }
    }

    private static final class Output {
        final char[] signs = new char[MAX_OUTPUT];
        int length;

        void describeTable(State state) {
            length = 0;
            for (int cell = 0; cell < CELLS; cell++) {
                if (cell > 0 && cell % ROW == 0) {
                    write('/');
                }
                if (state.isOccupied(cell)) {
                    writeDigit(state.occupant[cell]);
                    writeDigit(state.sheetLaidIn(cell).turns);
                } else {
                    writeTimes('.', 2);
                }
            }
        }

        void describeSheet(Sheet sheet) {
            length = 0;
            write(sheet.type);
            for (int side = 0; side < SIDES; side++) {
                writeDigit(sheet.borderWhenTurned(side, 0));
            }
            if (sheet.creaseTotal > 0) {
                write('|');
            }
            for (int crease = 0; crease < sheet.creaseTotal; crease++) {
                write(sheet.creases[crease]);
            }
            writeTimes('*', sheet.worn);
            writeTimes('#', sheet.folded ? 1 : 0);
        }

        private void writeDigit(int digit) {
            write((char) ('0' + digit));
        }

        private void writeTimes(char sign, int times) {
            for (int written = 0; written < times; written++) {
                write(sign);
            }
        }

        private void write(char sign) {
            if (length < MAX_OUTPUT) {
                signs[length] = sign;
                length++;
            }
        }
    }
}
