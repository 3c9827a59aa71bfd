/** The section "Commands" and promises 44 to 47: each bound, on both sides. */
final class CommandEdges {
    private static final String DIGITS = "0123456789";
    private static final String LETTERS = "scfompt";
    private static final String FULL_TEXT =
            "sheet 0000 s;paste 1;paste 1;paste 1;paste 1;paste 1;paste 1";

    /** A command, and behind it for each place the signs that can stand there, up to its end. */
    private static final String[][] FORMS = {
        {"sheet 0000 s", LETTERS, "h", "e", "e", "t", " ", DIGITS, DIGITS, DIGITS, DIGITS, " ", "slc", ";"},
        {"crease 0 v", LETTERS, "r", "e", "a", "s", "e", " ", DIGITS, " ", "mv", ";"},
        {"fold 0", LETTERS, "o", "l", "d", " ", DIGITS, ";"},
        {"open 0", LETTERS, "p", "e", "n", " ", DIGITS, ";"},
        {"mend 0", LETTERS, "e", "n", "d", " ", DIGITS, ";"},
        {"put 0 0 0", LETTERS, "ua", "t", " ", DIGITS, " ", DIGITS, " ", DIGITS, ";"},
        {"take 0", LETTERS, "a", "k", "e", " ", DIGITS, ";"},
        {"paste 1", LETTERS, "ua", "s", "t", "e", " ", DIGITS, DIGITS + ";"},
        {"paste 12", LETTERS, "ua", "s", "t", "e", " ", DIGITS, DIGITS + ";", ";"},
    };

    static void run(Check check) {
        check.test("commands: the buffer holds 60 characters", CommandEdges::fullBuffer);
        check.test("commands: a text of 60 characters is carried out", CommandEdges::fullText);
        check.test("commands: an empty text is malformed at 0", CommandEdges::emptyText);
        check.test("commands: a text that ends too early, at its length", CommandEdges::tooEarly);
        check.test("commands: each sign at each place of each command", () -> eachSign(""));
        check.test("commands: each sign at each place of a second command", () -> eachSign("paste 1;"));
        check.test("commands: only the first wrong sign counts", CommandEdges::firstWrongSign);
        check.test("commands: semicolons stand between commands alone", CommandEdges::semicolons);
        check.test("commands: keywords are compared letter by letter", CommandEdges::keywords);
        check.test("commands: an amount has one or two digits", CommandEdges::amounts);
        check.test("commands: digits out of range fail, not malformed", CommandEdges::outOfRange);
        check.test("commands: each does what its method does", CommandEdges::asMethods);
        check.test("promise 44: answers 1 to 60", CommandEdges::feedAnswers);
        check.test("promise 44: any character", CommandEdges::feedAny);
        check.test("promise 45: answers 1 to 8 commands", CommandEdges::runAnswers);
        check.test("promise 45: the buffer is empty afterwards in all cases", CommandEdges::emptyAfterwards);
        check.test("promise 45: a failed command keeps the state", CommandEdges::failedKeepsState);
        check.test("promise 45: a malformed text changes nothing", CommandEdges::malformedKeepsState);
        check.test("promise 45: malformed before failed", CommandEdges::malformedFirst);
        check.test("promise 46: from 0 to 60", CommandEdges::errorPositions);
        check.test("promise 46: of the latest malformed text", CommandEdges::latestMalformed);
        check.test("promise 46: refuses while no text was malformed", CommandEdges::noneMalformed);
        check.test("promise 47: from 0 to 7", CommandEdges::failedCommands);
        check.test("promise 47: of the latest failed call", CommandEdges::latestFailed);
        check.test("promise 47: refuses while no command failed", CommandEdges::noneFailed);
    }

    /** The error position of a text, or -1 if it is well-formed, whether its commands fail or not. */
    private static int errorPositionOf(String text) {
        MapHall hall = new MapHall();
        CommandTests.feedAll(hall, text);
        try {
            hall.runCommands();
            return -1;
        } catch (IllegalArgumentException malformed) {
            return hall.errorPosition();
        } catch (UnsupportedOperationException failed) {
            return -1;
        }
    }

    private static void fullBuffer() {
        MapHall hall = new MapHall();
        CommandTests.feedAll(hall, FULL_TEXT.substring(0, 59));
        Check.same(60, hall.feed('1'));
        Refusals.wrongState(hall, () -> hall.feed('1'));
        Check.same(7, hall.runCommands());
        Check.same(1, hall.feed('1'));
    }

    private static void fullText() {
        Check.same(60, FULL_TEXT.length());
        MapHall hall = new MapHall();
        Check.same(7, CommandTests.runText(hall, FULL_TEXT));
        Check.same(1, hall.sheetCount());
        Check.same(6, hall.paste());
        Check.same(60, errorPositionOf(FULL_TEXT.substring(0, 53) + "crease "));
        Check.same(59, errorPositionOf(FULL_TEXT.substring(0, 59) + "x"));
    }

    private static void emptyText() {
        MapHall hall = new MapHall();
        CommandTests.isMalformed(hall, 0, "");
        hall.addPaste(1);
        CommandTests.runText(hall, "paste 1");
        CommandTests.isMalformed(hall, 0, "");
        Check.same(2, hall.undoCount());
    }

    private static void tooEarly() {
        for (String[] form : FORMS) {
            for (int length = 0; length < form[0].length(); length++) {
                String start = form[0].substring(0, length);
                int due = start.equals("paste 1") ? -1 : length;
                Check.same(due, errorPositionOf(start));
                Check.same(due < 0 ? due : 8 + due, errorPositionOf("paste 1;" + start));
            }
            Check.same(-1, errorPositionOf(form[0]));
            Check.same(form[0].length() + 1, errorPositionOf(form[0] + ";"));
        }
    }

    private static void eachSign(String lead) {
        for (String[] form : FORMS) {
            for (int place = 0; place < form.length - 1; place++) {
                String start = lead + form[0].substring(0, place);
                String rest = form[0].substring(Math.min(place + 1, form[0].length()));
                for (int sign = 0; sign < 300; sign++) {
                    oneSign(start, (char) sign, rest, form[place + 1]);
                }
                // Only the low eight bits of this one could stand here.
                oneSign(start, (char) (form[place + 1].charAt(0) + 0xff00), rest, form[place + 1]);
            }
        }
    }

    private static void oneSign(String start, char sign, String rest, String allowed) {
        int position = errorPositionOf(start + sign);
        if (allowed.indexOf(sign) < 0) {
            Check.same(start.length(), position);
            Check.same(start.length(), errorPositionOf(start + sign + rest));
        } else {
            Check.holds(position == -1 || position == start.length() + 1);
        }
    }

    private static void firstWrongSign() {
        Check.same(2, errorPositionOf("foXd X"));
        Check.same(5, errorPositionOf("fold X;fold Y"));
        Check.same(12, errorPositionOf("fold 0;fold X;fold Y"));
    }

    private static void semicolons() {
        Check.same(-1, errorPositionOf("fold 0;fold 0"));
        Check.same(0, errorPositionOf(";"));
        Check.same(0, errorPositionOf(";fold 0"));
        Check.same(7, errorPositionOf("fold 0;"));
        Check.same(7, errorPositionOf("fold 0;;"));
        Check.same(6, errorPositionOf("fold 0 ;fold 0"));
        Check.same(7, errorPositionOf("fold 0; fold 0"));
        Check.same(6, errorPositionOf("fold 0fold 0"));
        Check.same(8, errorPositionOf("paste 1;"));
        Check.same(9, errorPositionOf("paste 12;"));
        Check.same(6, errorPositionOf("paste ;"));
    }

    private static void keywords() {
        for (String[] form : FORMS) {
            int end = form[0].indexOf(' ');
            for (int place = 0; place < end; place++) {
                StringBuilder text = new StringBuilder(form[0]);
                text.setCharAt(place, Character.toUpperCase(text.charAt(place)));
                Check.same(place, errorPositionOf(text.toString()));
            }
        }
        Check.same(0, errorPositionOf("unfold 0"));
        Check.same(0, errorPositionOf("addPaste 1"));
    }

    private static void amount(String text, int amount) {
        MapHall hall = new MapHall();
        if (amount >= 1 && amount <= 20) {
            Check.same(1, CommandTests.runText(hall, text));
            Check.same(amount, hall.paste());
        } else {
            CommandTests.fails(hall, 0, text);
            Check.same(0, hall.paste());
        }
    }

    private static void amounts() {
        for (int amount = 0; amount <= 99; amount++) {
            amount("paste " + amount / 10 + amount % 10, amount);
        }
        for (int amount = 0; amount <= 9; amount++) {
            amount("paste " + amount, amount);
        }
        Check.same(6, errorPositionOf("paste "));
        Check.same(8, errorPositionOf("paste 001"));
        Check.same(6, errorPositionOf("paste -1"));
    }

    private static void outOfRange() {
        MapHall hall = TableTests.withKinds("ss");
        hall.addCrease(0, 'v');
        String[] bounds = {"crease 2 v", "fold 2", "open 2", "mend 2", "put 2 0 0", "put 0 9 0", "put 0 0 4",
            "take 9", "paste 0", "paste 21"};
        for (String text : bounds) {
            CommandTests.fails(hall, 0, text);
        }
        Check.same(1, CommandTests.runText(hall, "crease 1 v"));
        Check.same(1, CommandTests.runText(hall, "put 0 8 3"));
        Check.same(1, CommandTests.runText(hall, "take 8"));
    }

    private static void asMethods() throws Exception {
        MapHall told = TableTests.withKinds("sl");
        MapHall called = TableTests.withKinds("sl");
        alike(told, "sheet 1203 c", called, () -> called.addSheet(1, 2, 0, 3, 'c'));
        alike(told, "crease 0 v", called, () -> called.addCrease(0, 'v'));
        alike(told, "crease 0 m", called, () -> called.addCrease(0, 'm'));
        alike(told, "fold 0", called, () -> called.fold(0));
        alike(told, "open 0", called, () -> called.unfold(0));
        alike(told, "paste 20", called, () -> called.addPaste(20));
        alike(told, "mend 0", called, () -> called.mend(0));
        alike(told, "put 2 8 3", called, () -> called.put(2, 8, 3));
        alike(told, "take 8", called, () -> called.take(8));
    }

    private static void alike(MapHall told, String text, MapHall called, Check.Body call) throws Exception {
        Check.same(1, CommandTests.runText(told, text));
        call.run();
        Check.same(Digest.whole(called), Digest.whole(told));
    }

    private static void feedAnswers() {
        MapHall hall = new MapHall();
        for (int length = 1; length <= 60; length++) {
            Check.same(length, hall.feed(' '));
        }
        Refusals.wrongState(hall, () -> hall.feed(' '));
        Refusals.wrongState(hall, () -> hall.feed(' '));
        CommandTests.isMalformed(hall, 0, "");
    }

    private static void feedAny() {
        MapHall hall = new MapHall();
        char[] signs = {0, 1, ' ', ';', 127, 128, 255, 256, 32767, 32768, 65535};
        for (int index = 0; index < signs.length; index++) {
            Check.same(index + 1, hall.feed(signs[index]));
        }
    }

    private static void runAnswers() {
        MapHall hall = new MapHall();
        StringBuilder text = new StringBuilder("paste 1");
        for (int count = 1; count <= 7; count++) {
            Check.same(count, CommandTests.runText(hall, text.toString()));
            Check.same(count, hall.undoCount());
            Check.same(count * (count + 1) / 2, hall.paste());
            text.append(";paste 1");
        }
        SheetTests.addCreases(hall, hall.addSheet(0, 0, 0, 0, 's'), "v");
        String turns = "fold 0;open 0;fold 0;open 0;";
        Check.same(8, CommandTests.runText(hall, turns + turns.substring(0, 27)));
        Check.same(4, hall.wear(0));
    }

    private static void emptyAfterwards() {
        MapHall hall = new MapHall();
        CommandTests.runText(hall, "paste 1");
        Check.same(1, hall.feed('x'));
        Check.refuses(IllegalArgumentException.class, hall::runCommands);
        CommandTests.fails(hall, 0, "take 0");
        Check.same(1, hall.feed('x'));
        Check.refuses(IllegalArgumentException.class, hall::runCommands);
        Check.refuses(IllegalArgumentException.class, hall::runCommands);
        Check.same(1, hall.feed('x'));
    }

    private static void failedKeepsState() {
        MapHall hall = SheetTests.withSheet("v");
        hall.addPaste(5);
        hall.put(0, 4, 2);
        CommandTests.fails(hall, 0, "fold 0");
        String before = Digest.whole(hall);
        CommandTests.fails(hall, 0, "take 0;take 4");
        Check.same(before, Digest.whole(hall));
        String whole = Digest.of(hall);
        String changes = "take 4;fold 0;open 0;mend 0;sheet 1111 c;put 1 0 0";
        CommandTests.fails(hall, 6, changes + ";fold 1");
        Check.same(whole, Digest.of(hall));
        Check.same(4, hall.undoCount());
        Check.same(6, CommandTests.runText(hall, changes));
        Check.same(4, hall.undo());
        Check.same(whole, Digest.of(hall));
    }

    private static void malformedKeepsState() {
        MapHall hall = SheetTests.withSheet("v");
        CommandTests.isMalformed(hall, 16, "paste 1;paste 1;");
        String before = Digest.whole(hall);
        CommandTests.isMalformed(hall, 16, "paste 1;fold 0;p");
        CommandTests.isMalformed(hall, 16, "paste 2;paste 2;?");
        Check.same(before, Digest.whole(hall));
    }

    private static void malformedFirst() {
        MapHall hall = new MapHall();
        CommandTests.isMalformed(hall, 7, "fold 0;");
        CommandTests.isMalformed(hall, 8, "paste 0;x");
        Refusals.nothingThere(hall, hall::failedCommand);
    }

    private static void errorPositions() {
        MapHall hall = new MapHall();
        CommandTests.isMalformed(hall, 0, "x");
        CommandTests.isMalformed(hall, 1, "s");
        CommandTests.isMalformed(hall, 59, FULL_TEXT.substring(0, 59));
        CommandTests.isMalformed(hall, 59, FULL_TEXT.substring(0, 59) + ".");
        CommandTests.isMalformed(hall, 60, FULL_TEXT.substring(0, 53) + "crease ");
        CommandTests.isMalformed(hall, 0, "x" + FULL_TEXT.substring(1));
    }

    private static void latestMalformed() {
        MapHall hall = new MapHall();
        CommandTests.isMalformed(hall, 5, "fold ");
        CommandTests.runText(hall, "paste 1");
        Check.same(5, hall.errorPosition());
        CommandTests.fails(hall, 0, "fold 0");
        Check.same(5, hall.errorPosition());
        CommandTests.isMalformed(hall, 0, "");
        CommandTests.isMalformed(hall, 3, "fol");
    }

    private static void noneMalformed() {
        MapHall hall = new MapHall();
        Refusals.nothingThere(hall, hall::errorPosition);
        CommandTests.runText(hall, "paste 1");
        Refusals.nothingThere(hall, hall::errorPosition);
        CommandTests.fails(hall, 0, "fold 0");
        Refusals.nothingThere(hall, hall::errorPosition);
        CommandTests.isMalformed(hall, 0, "");
        Check.same(0, hall.errorPosition());
    }

    private static void failedCommands() {
        for (int failed = 0; failed < 8; failed++) {
            MapHall hall = SheetTests.withSheet("v");
            StringBuilder text = new StringBuilder();
            for (int index = 0; index < 8; index++) {
                // At the failed place the sheet is not in the state that the command needs.
                boolean folds = (index % 2 == 0) == (index != failed);
                text.append(index == 0 ? "" : ";").append(folds ? "fold 0" : "open 0");
            }
            CommandTests.fails(hall, failed, text.toString());
            Check.same(0, hall.wear(0));
        }
    }

    private static void latestFailed() {
        MapHall hall = new MapHall();
        CommandTests.fails(hall, 2, "paste 1;paste 1;take 0;take 0");
        CommandTests.runText(hall, "paste 1");
        Check.same(2, hall.failedCommand());
        CommandTests.fails(hall, 0, "take 0");
        CommandTests.fails(hall, 1, "paste 1;take 0");
        CommandTests.isMalformed(hall, 0, "x");
        Check.same(1, hall.failedCommand());
    }

    private static void noneFailed() {
        MapHall hall = new MapHall();
        Refusals.nothingThere(hall, hall::failedCommand);
        CommandTests.runText(hall, "paste 1");
        Refusals.nothingThere(hall, hall::failedCommand);
        CommandTests.isMalformed(hall, 0, "x");
        Refusals.nothingThere(hall, hall::failedCommand);
        Refusals.nothingThere(hall, () -> hall.take(0));
        Refusals.nothingThere(hall, hall::failedCommand);
        CommandTests.fails(hall, 0, "take 0");
        Check.same(0, hall.failedCommand());
    }
}
