import java.util.ArrayDeque;
import java.util.ArrayList;
import java.util.Arrays;
import java.util.Comparator;
import java.util.Deque;
import java.util.List;
import java.util.NoSuchElementException;
import java.util.regex.Matcher;
import java.util.regex.Pattern;

/** A second hall, written from the document in another manner, to compare the first one with. */
public final class PlainHall {
    private static final class Sheet {
        String codes;
        char kind;
        String creases = "";
        int wear;
        boolean folded;
        int cell = -1;
        int turns;

        Sheet copy() {
            Sheet copy = new Sheet();
            copy.codes = codes;
            copy.kind = kind;
            copy.creases = creases;
            copy.wear = wear;
            copy.folded = folded;
            copy.cell = cell;
            copy.turns = turns;
            return copy;
        }
    }

    private static final class State {
        final List<Sheet> sheets = new ArrayList<>();
        int paste;
        int used;
        int folds;

        State copy() {
            State copy = new State();
            sheets.forEach(sheet -> copy.sheets.add(sheet.copy()));
            copy.paste = paste;
            copy.used = used;
            copy.folds = folds;
            return copy;
        }
    }

    private static final Pattern TEXT;

    static {
        String command = "(sheet [0-9]{4} [slc]|crease [0-9] [mv]|fold [0-9]|open [0-9]|mend [0-9]"
                + "|put [0-9] [0-9] [0-9]|take [0-9]|paste [0-9][0-9]?)";
        TEXT = Pattern.compile(command + "(;" + command + ")*");
    }

    private State state = new State();
    private State saved;
    private final Deque<State> past = new ArrayDeque<>();
    private String input = "";
    private String output = "";
    private Integer error;
    private Integer failed;

    private static void require(boolean condition, RuntimeException problem) {
        if (!condition) {
            throw problem;
        }
    }

    private static boolean in(int number, int low, int high) {
        return number >= low && number <= high;
    }

    private Sheet get(int sheet) {
        require(in(sheet, 0, state.sheets.size() - 1), new IndexOutOfBoundsException());
        return state.sheets.get(sheet);
    }

    private Sheet at(int cell) {
        return state.sheets.stream().filter(sheet -> sheet.cell == cell).findFirst().orElse(null);
    }

    private Sheet occupying(int cell) {
        requireCell(cell);
        require(at(cell) != null, new NoSuchElementException());
        return at(cell);
    }

    private static void requireCell(int cell) {
        require(in(cell, 0, 8), new IndexOutOfBoundsException());
    }

    private void remember(State before) {
        past.addLast(before);
        if (past.size() > 8) {
            past.removeFirst();
        }
    }

    private static int turnedCode(Sheet sheet, int side, int turns) {
        return sheet.codes.charAt((side - turns + 4) % 4) - '0';
    }

    /** The side of a cell on which another one lies, or -1 if they are no neighbours. */
    private static int sideTowards(int cell, int other) {
        int down = other / 3 - cell / 3;
        int right = other % 3 - cell % 3;
        if (Math.abs(down) + Math.abs(right) != 1) {
            return -1;
        }
        return down == -1 ? 0 : right == 1 ? 1 : down == 1 ? 2 : 3;
    }

    private List<Sheet> around(int cell) {
        List<Sheet> found = new ArrayList<>();
        for (Sheet sheet : state.sheets) {
            if (sheet.cell >= 0 && sideTowards(cell, sheet.cell) >= 0) {
                found.add(sheet);
            }
        }
        return found;
    }

    private boolean fits(Sheet sheet, int cell, int turns) {
        return around(cell).stream().allMatch(other ->
                turnedCode(sheet, sideTowards(cell, other.cell), turns)
                        == turnedCode(other, sideTowards(other.cell, cell), other.turns));
    }

    public int addSheet(int north, int east, int south, int west, char kind) {
        for (int code : new int[] {north, east, south, west}) {
            require(in(code, 0, 9), new IllegalArgumentException());
        }
        require("slc".indexOf(kind) >= 0, new IllegalArgumentException());
        require(state.sheets.size() < 9, new IllegalStateException());
        remember(state.copy());
        Sheet sheet = new Sheet();
        sheet.codes = "" + north + east + south + west;
        sheet.kind = kind;
        state.sheets.add(sheet);
        return state.sheets.size() - 1;
    }

    public int addCrease(int sheet, char crease) {
        Sheet changed = get(sheet);
        require(crease == 'v' || crease == 'm', new IllegalArgumentException());
        require(changed.creases.length() < 6 && !changed.folded, new IllegalStateException());
        remember(state.copy());
        changed.creases += crease;
        return changed.creases.length();
    }

    public int fold(int sheet) {
        Sheet changed = get(sheet);
        require(!changed.folded && !changed.creases.isEmpty() && changed.cell < 0,
                new IllegalStateException());
        remember(state.copy());
        changed.wear = Math.min(9, changed.wear + changed.creases.length());
        changed.folded = true;
        state.folds++;
        return changed.wear;
    }

    public int unfold(int sheet) {
        Sheet changed = get(sheet);
        require(changed.folded, new IllegalStateException());
        remember(state.copy());
        changed.folded = false;
        return (int) state.sheets.stream().filter(other -> !other.folded).count();
    }

    public int mend(int sheet) {
        Sheet changed = get(sheet);
        require(changed.wear > 0 && !changed.folded, new IllegalStateException());
        require(changed.wear <= state.paste, new UnsupportedOperationException());
        remember(state.copy());
        state.paste -= changed.wear;
        state.used += changed.wear;
        changed.wear = 0;
        return state.paste;
    }

    public int put(int sheet, int cell, int turns) {
        Sheet changed = get(sheet);
        requireCell(cell);
        require(in(turns, 0, 3), new IllegalArgumentException());
        require(!changed.folded && changed.wear < 5 && changed.cell < 0 && at(cell) == null,
                new IllegalStateException());
        require(fits(changed, cell, turns), new UnsupportedOperationException());
        remember(state.copy());
        changed.cell = cell;
        changed.turns = turns;
        return around(cell).size();
    }

    public int take(int cell) {
        Sheet taken = occupying(cell);
        int index = state.sheets.indexOf(taken);
        remember(state.copy());
        taken.cell = -1;
        return index;
    }

    public int addPaste(int amount) {
        require(in(amount, 1, 20), new IllegalArgumentException());
        require(state.paste + amount <= 50, new IllegalStateException());
        remember(state.copy());
        state.paste += amount;
        return state.paste;
    }

    public int sheetCount() {
        return state.sheets.size();
    }

    public char kind(int sheet) {
        return get(sheet).kind;
    }

    public int border(int sheet, int side) {
        Sheet asked = get(sheet);
        require(in(side, 0, 3), new IllegalArgumentException());
        return asked.codes.charAt(side) - '0';
    }

    public int wear(int sheet) {
        return get(sheet).wear;
    }

    public boolean isTorn(int sheet) {
        return get(sheet).wear >= 5;
    }

    public boolean isFolded(int sheet) {
        return get(sheet).folded;
    }

    public int creaseCount(int sheet) {
        return get(sheet).creases.length();
    }

    public char crease(int sheet, int index) {
        String creases = get(sheet).creases;
        require(in(index, 0, creases.length() - 1), new IndexOutOfBoundsException());
        return creases.charAt(index);
    }

    public int cellOf(int sheet) {
        require(get(sheet).cell >= 0, new NoSuchElementException());
        return get(sheet).cell;
    }

    public int sheetIn(int cell) {
        return state.sheets.indexOf(occupying(cell));
    }

    public int turnsIn(int cell) {
        return occupying(cell).turns;
    }

    public int borderIn(int cell, int side) {
        requireCell(cell);
        require(in(side, 0, 3), new IllegalArgumentException());
        return turnedCode(occupying(cell), side, at(cell).turns);
    }

    public int emptyCells() {
        return 9 - laid().size();
    }

    private List<Sheet> laid() {
        return state.sheets.stream().filter(sheet -> sheet.cell >= 0).toList();
    }

    public int paste() {
        return state.paste;
    }

    public boolean matches(int sheet, int cell, int turns) {
        Sheet asked = get(sheet);
        requireCell(cell);
        require(in(turns, 0, 3), new IllegalArgumentException());
        require(at(cell) == null && asked.cell < 0, new IllegalStateException());
        return fits(asked, cell, turns);
    }

    public int waysToPut(int sheet) {
        get(sheet);
        PlainHall copy = new PlainHall();
        int ways = 0;
        for (int place = 0; place < 36; place++) {
            copy.state = state.copy();
            try {
                copy.put(sheet, place / 4, place % 4);
                ways++;
            } catch (IllegalStateException | UnsupportedOperationException refused) {
                // It is no way.
            }
        }
        return ways;
    }

    public int completions() {
        require(emptyCells() <= 3, new UnsupportedOperationException());
        List<Integer> empty = new ArrayList<>();
        for (int cell = 0; cell < 9; cell++) {
            if (at(cell) == null) {
                empty.add(cell);
            }
        }
        return fillings(empty);
    }

    /** Lays sheets without a look at their borders, and looks at all of them in the end. */
    private int fillings(List<Integer> empty) {
        if (empty.isEmpty()) {
            return laid().stream().allMatch(sheet -> fits(sheet, sheet.cell, sheet.turns)) ? 1 : 0;
        }
        int ways = 0;
        for (Sheet sheet : state.sheets) {
            for (int turns = 0; turns < 4; turns++) {
                if (sheet.cell < 0 && !sheet.folded && sheet.wear < 5) {
                    sheet.cell = empty.get(0);
                    sheet.turns = turns;
                    ways += fillings(empty.subList(1, empty.size()));
                    sheet.cell = -1;
                }
            }
        }
        return ways;
    }

    public int completionsBackwards() {
        return completions();
    }

    public int foldings(int sheet) {
        return Orders.possible(get(sheet).creases).size();
    }

    public int foldingsByPermutations(int sheet) {
        return foldings(sheet);
    }

    public boolean canBeOnTop(int sheet, int panel) {
        int last = get(sheet).creases.length();
        require(in(panel, 0, last), new IndexOutOfBoundsException());
        return Orders.possible(get(sheet).creases).stream().anyMatch(order -> order.get(last) == panel);
    }

    public int pointsOf(int cell) {
        Sheet sheet = occupying(cell);
        int same = (int) around(cell).stream().filter(other -> other.kind == sheet.kind).count();
        return switch (sheet.kind) {
            case 's' -> 1 + same;
            case 'l' -> 2 + around(cell).size() - same;
            default -> same >= 3 ? 0 : 6 - 2 * same;
        };
    }

    public int points() {
        return laid().stream().mapToInt(sheet -> pointsOf(sheet.cell)).sum();
    }

    public int pointsByPairs() {
        return points();
    }

    private boolean[][] reachable() {
        boolean[][] reached = new boolean[9][9];
        for (Sheet one : laid()) {
            for (Sheet other : laid()) {
                reached[one.cell][other.cell] = one == other || sideTowards(one.cell, other.cell) >= 0;
            }
        }
        for (int between = 0; between < 9; between++) {
            for (int one = 0; one < 9; one++) {
                for (int other = 0; other < 9; other++) {
                    reached[one][other] |= reached[one][between] && reached[between][other];
                }
            }
        }
        return reached;
    }

    public int groupSize(int cell) {
        occupying(cell);
        int size = 0;
        for (boolean reached : reachable()[cell]) {
            size += reached ? 1 : 0;
        }
        return size;
    }

    public int groups() {
        return (int) Arrays.stream(reachable()).map(Arrays::toString)
                .filter(row -> row.contains("true")).distinct().count();
    }

    public int groupsByJoining() {
        return groups();
    }

    public int matchedBorders() {
        return laid().stream().mapToInt(sheet -> around(sheet.cell).size()).sum() / 2;
    }

    public int sheetByWear(int rank) {
        require(in(rank, 0, state.sheets.size() - 1), new NoSuchElementException());
        List<Sheet> sorted = new ArrayList<>(state.sheets);
        sorted.sort(Comparator.comparing((Sheet sheet) -> -sheet.wear)
                .thenComparing(sheet -> -sheet.creases.length()));
        return state.sheets.indexOf(sorted.get(rank));
    }

    public int foldCount() {
        return state.folds;
    }

    public int usedPaste() {
        return state.used;
    }

    public double meanWear() {
        require(!state.sheets.isEmpty(), new ArithmeticException());
        return (double) state.sheets.stream().mapToInt(sheet -> sheet.wear).sum()
                / (double) state.sheets.size();
    }

    public float coveredShare() {
        return (float) laid().size() / 9.0f;
    }

    public boolean isConsistent() {
        return true;
    }

    public int feed(char character) {
        require(input.length() < 60, new IllegalStateException());
        input += character;
        return input.length();
    }

    public int runCommands() {
        String text = input;
        input = "";
        if (!TEXT.matcher(text).matches()) {
            error = longestStart(text);
            throw new IllegalArgumentException();
        }
        PlainHall copy = new PlainHall();
        copy.state = state.copy();
        String[] commands = text.split(";");
        for (int index = 0; index < commands.length; index++) {
            try {
                copy.carryOut(commands[index].split(" "));
            } catch (RuntimeException problem) {
                failed = index;
                throw new UnsupportedOperationException();
            }
        }
        remember(state);
        state = copy.state;
        return commands.length;
    }

    /** The length of the longest start of a text with which a well-formed one could start. */
    private static int longestStart(String text) {
        for (int length = text.length(); length > 0; length--) {
            Matcher matcher = TEXT.matcher(text.substring(0, length));
            if (matcher.matches() || matcher.hitEnd()) {
                return length;
            }
        }
        return 0;
    }

    private void carryOut(String[] words) {
        int[] numbers = new int[words.length];
        for (int word = 1; word < words.length; word++) {
            if (words[word].matches("[0-9]+")) {
                numbers[word] = Integer.parseInt(words[word]);
            }
        }
        switch (words[0]) {
            case "sheet" -> {
                int code = numbers[1];
                addSheet(code / 1000, code / 100 % 10, code / 10 % 10, code % 10, words[2].charAt(0));
            }
            case "crease" -> addCrease(numbers[1], words[2].charAt(0));
            case "fold" -> fold(numbers[1]);
            case "open" -> unfold(numbers[1]);
            case "mend" -> mend(numbers[1]);
            case "put" -> put(numbers[1], numbers[2], numbers[3]);
            case "take" -> take(numbers[1]);
            default -> addPaste(numbers[1]);
        }
    }

    public int errorPosition() {
        require(error != null, new NoSuchElementException());
        return error;
    }

    public int failedCommand() {
        require(failed != null, new NoSuchElementException());
        return failed;
    }

    public int writeTable() {
        List<String> rows = new ArrayList<>();
        for (int row = 0; row < 3; row++) {
            String text = "";
            for (int cell = 3 * row; cell < 3 * row + 3; cell++) {
                text += at(cell) == null ? ".." : "" + sheetIn(cell) + turnsIn(cell);
            }
            rows.add(text);
        }
        output = String.join("/", rows);
        return output.length();
    }

    public int writeSheet(int sheet) {
        Sheet asked = get(sheet);
        output = asked.kind + asked.codes + (asked.creases.isEmpty() ? "" : "|" + asked.creases)
                + "*".repeat(asked.wear) + (asked.folded ? "#" : "");
        return output.length();
    }

    public char outputChar(int index) {
        require(in(index, 0, output.length() - 1), new IndexOutOfBoundsException());
        return output.charAt(index);
    }

    public int undoCount() {
        return past.size();
    }

    public int undo() {
        require(!past.isEmpty(), new IllegalStateException());
        state = past.removeLast();
        return past.size();
    }

    public int save() {
        saved = state.copy();
        return state.sheets.size();
    }

    public int restore() {
        require(saved != null, new IllegalStateException());
        state = saved.copy();
        past.clear();
        return state.sheets.size();
    }
}
