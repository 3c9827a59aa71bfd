/** All that can be asked of the undone and saved state of a hall, as a text. */
final class Digest {
    private static final int LONGEST_OUTPUT = 22;

    private interface Question {
        Object ask();
    }

    static String of(MapHall hall) {
        StringBuilder text = new StringBuilder();
        text.append(hall.sheetCount()).append(' ').append(hall.paste()).append(' ');
        text.append(hall.usedPaste()).append(' ').append(hall.foldCount()).append('\n');
        for (int sheet = 0; sheet < hall.sheetCount(); sheet++) {
            describeSheet(hall, sheet, text);
        }
        for (int cell = 0; cell < 9; cell++) {
            int asked = cell;
            text.append(answer(() -> hall.sheetIn(asked))).append(' ');
            text.append(answer(() -> hall.turnsIn(asked))).append('\n');
        }
        return text.toString();
    }

    /** All that can be asked of a hall; that of the input buffer is left out, as asking changes it. */
    static String whole(MapHall hall) {
        StringBuilder text = new StringBuilder(of(hall));
        text.append(hall.undoCount()).append(' ');
        text.append(answer(hall::errorPosition)).append(' ');
        text.append(answer(hall::failedCommand)).append('\n');
        for (int index = 0; index < LONGEST_OUTPUT; index++) {
            int asked = index;
            text.append(answer(() -> hall.outputChar(asked)));
        }
        return text.toString();
    }

    private static void describeSheet(MapHall hall, int sheet, StringBuilder text) {
        text.append(hall.kind(sheet));
        for (int side = 0; side < 4; side++) {
            text.append(hall.border(sheet, side));
        }
        for (int index = 0; index < hall.creaseCount(sheet); index++) {
            text.append(hall.crease(sheet, index));
        }
        text.append(hall.wear(sheet)).append(hall.isFolded(sheet));
        text.append(answer(() -> hall.cellOf(sheet))).append('\n');
    }

    private static String answer(Question question) {
        try {
            return String.valueOf(question.ask());
        } catch (RuntimeException problem) {
            return problem.getClass().getSimpleName();
        }
    }
}
