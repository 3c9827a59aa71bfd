import java.lang.reflect.InvocationTargetException;
import java.lang.reflect.Method;
import java.util.ArrayList;
import java.util.Comparator;
import java.util.List;

/** Long runs of calls, the same ones every time, on both halls: all answers must agree. */
final class RandomRuns {
    private static final int RUNS = 400;
    private static final int CALLS = 512;
    private static final String[] CHANGES = {"addSheet", "addCrease", "fold", "unfold", "mend", "put",
        "put", "put", "put", "take", "addPaste", "undo", "save", "restore", "text", "text"};

    private final List<Method> methods = new ArrayList<>();
    private long seed;
    private MapHall hall;
    private PlainHall plain;
    private int codes;
    private int creases;
    private StringBuilder told;

    static void run(Check check) {
        check.test("all promises: long runs agree with a second hall", () -> new RandomRuns().runAll());
    }

    private RandomRuns() {
        for (Method method : MapHall.class.getDeclaredMethods()) {
            if (java.lang.reflect.Modifier.isPublic(method.getModifiers())) {
                methods.add(method);
            }
        }
        methods.sort(Comparator.comparing(Method::getName));
    }

    private void runAll() throws Exception {
        for (int run = 1; run <= RUNS; run++) {
            seed = run * 7919L;
            codes = new int[] {1, 1, 2, 3, 10}[below(5)];
            creases = below(3);
            hall = new MapHall();
            plain = new PlainHall();
            told = new StringBuilder();
            for (int call = 0; call < CALLS; call++) {
                oneCall();
            }
        }
    }

    /** A number from 0 on that is less than a bound. */
    private int below(int bound) {
        seed = seed * 6364136223846793005L + 1442695040888963407L;
        return (int) ((seed >>> 33) % bound);
    }

    private void oneCall() throws Exception {
        if (below(2) == 0) {
            Method any = methods.get(below(methods.size()));
            both(any, argumentsOf(any));
            return;
        }
        String name = CHANGES[below(CHANGES.length)];
        boolean isRare = name.equals("restore") || name.equals("take") || name.equals("undo");
        if (name.equals("text")) {
            text();
        } else if (!isRare || below(6) == 0) {
            for (Method method : methods) {
                if (method.getName().equals(name)) {
                    both(method, argumentsOf(method));
                }
            }
        }
    }

    private Object[] argumentsOf(Method method) {
        Class<?>[] types = method.getParameterTypes();
        Object[] arguments = new Object[types.length];
        for (int index = 0; index < types.length; index++) {
            if (types[index] == char.class) {
                arguments[index] = sign(method.getName());
            } else {
                arguments[index] = number(method.getName(), index);
            }
        }
        return arguments;
    }

    private char sign(String name) {
        if (below(30) == 0) {
            return (char) below(65536);
        }
        return name.equals("addCrease") ? "vm".charAt(below(2)) : "slc".charAt(below(3));
    }

    private int number(String name, int index) {
        if (below(40) == 0) {
            return new int[] {-1, Integer.MIN_VALUE, Integer.MAX_VALUE, 9, 10, 4}[below(6)];
        }
        if (name.equals("addSheet")) {
            return below(codes);
        }
        if (name.equals("addPaste")) {
            return below(22);
        }
        if (name.equals("outputChar")) {
            return below(23);
        }
        if (name.equals("addCrease") && creases == 0) {
            return below(Math.max(1, hall.sheetCount() / 3));
        }
        if (name.equals("canBeOnTop") && index == 1) {
            return below(8);
        }
        if (name.startsWith("border") && index == 1 || index == 2) {
            return below(4);
        }
        boolean isCell = index == 1 || name.equals("take") || name.endsWith("In") || name.equals("pointsOf");
        return isCell ? below(9) : sheet();
    }

    /** Mostly one that exists. */
    private int sheet() {
        return below(20) == 0 ? below(9) : below(Math.max(1, hall.sheetCount()));
    }

    private void text() throws Exception {
        StringBuilder text = new StringBuilder();
        int commands = 1 + below(5);
        for (int command = 0; command < commands; command++) {
            text.append(command == 0 ? "" : ";").append(command());
        }
        if (below(3) == 0) {
            spoil(text);
        }
        Method feed = MapHall.class.getMethod("feed", char.class);
        for (char sign : text.toString().toCharArray()) {
            both(feed, sign);
        }
        both(MapHall.class.getMethod("runCommands"));
    }

    private String command() {
        return switch (below(8)) {
            case 0 -> "sheet " + below(codes) + below(codes) + below(codes) + below(codes) + " "
                    + "slc".charAt(below(3));
            case 1 -> "crease " + sheet() + " " + "vm".charAt(below(2));
            case 2 -> "fold " + sheet();
            case 3 -> "open " + sheet();
            case 4 -> "mend " + sheet();
            case 5 -> "take " + below(9);
            case 6 -> "paste " + (below(2) == 0 ? "0" : "") + below(10);
            default -> "put " + sheet() + " " + below(9) + " " + below(4);
        };
    }

    private void spoil(StringBuilder text) {
        int place = below(text.length());
        String signs = "sheet crease fold open mend put take paste 0123456789;vmslc\u0000\u00ff\u1234";
        switch (below(4)) {
            case 0 -> text.setLength(place);
            case 1 -> text.deleteCharAt(place);
            case 2 -> text.insert(place, signs.charAt(below(signs.length())));
            default -> text.setCharAt(place, signs.charAt(below(signs.length())));
        }
    }

    private void both(Method method, Object... arguments) throws Exception {
        Method other = PlainHall.class.getMethod(method.getName(), method.getParameterTypes());
        String answer = answer(method, hall, arguments);
        String due = answer(other, plain, arguments);
        told.append(method.getName()).append(List.of(arguments)).append(' ').append(answer).append('\n');
        if (!answer.equals(due)) {
            throw new AssertionError("due is " + due + " in\n" + told);
        }
    }

    private static String answer(Method method, Object object, Object[] arguments) throws Exception {
        try {
            return String.valueOf(method.invoke(object, arguments));
        } catch (InvocationTargetException thrown) {
            return "throws." + thrown.getCause().getClass().getName();
        }
    }
}
