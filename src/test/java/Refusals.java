import java.util.NoSuchElementException;

/** Calls that must throw, and leave all that can be asked of the hall as it was. */
final class Refusals {
    static void noIndex(MapHall hall, Check.Body call) {
        refused(hall, IndexOutOfBoundsException.class, call);
    }

    static void badArgument(MapHall hall, Check.Body call) {
        refused(hall, IllegalArgumentException.class, call);
    }

    static void wrongState(MapHall hall, Check.Body call) {
        refused(hall, IllegalStateException.class, call);
    }

    static void notPossible(MapHall hall, Check.Body call) {
        refused(hall, UnsupportedOperationException.class, call);
    }

    static void nothingThere(MapHall hall, Check.Body call) {
        refused(hall, NoSuchElementException.class, call);
    }

    private static void refused(MapHall hall, Class<? extends RuntimeException> due, Check.Body call) {
        String before = Digest.whole(hall);
        Check.refuses(due, call);
        Check.same(before, Digest.whole(hall));
    }

    /** The numbers next to a range, and the farthest from it. */
    static int[] outside(int lowest, int highest) {
        return new int[] {lowest - 1, highest + 1, Integer.MIN_VALUE, Integer.MAX_VALUE};
    }
}
