import java.lang.reflect.InvocationTargetException;
import java.lang.reflect.Method;
import java.lang.reflect.Modifier;
import java.util.ArrayList;
import java.util.Arrays;
import java.util.LinkedHashMap;
import java.util.List;
import java.util.Map;
import java.util.function.Supplier;

/**
 * Every method of the face, with ordinary and outlandish arguments, in ledgers of many kinds: it answers, or throws
 * just what its line in 'The public face' lists, by the class's own throw and not by the machine's or the library's.
 */
public final class ExceptionsTest {
    private static final int[] NUMBERS = {Integer.MIN_VALUE, Integer.MIN_VALUE + 1, -100, -2, -1, 0, 1, 2, 3, 4, 5,
            14, 15, 16, 60, 99, 100, 1 << 30, Integer.MAX_VALUE - 1, Integer.MAX_VALUE};
    private static final char[] CHARACTERS = {0, '\n', 31, ' ', '0', ';', 'h', '~', 127, 128, 255, 256, 0xffff};

    private static final Check check = new Check();

    public static void main(String[] args) {
        Map<String, Supplier<SnowLedger>> ledgers = ledgers();
        for (Method method : SnowLedger.class.getDeclaredMethods()) {
            if (Modifier.isPublic(method.getModifiers())) {
                for (Map.Entry<String, Supplier<SnowLedger>> made : ledgers.entrySet()) {
                    everyCall(method, made.getKey(), made.getValue());
                }
            }
        }
        check.end();
    }

    private static Map<String, Supplier<SnowLedger>> ledgers() {
        Map<String, Supplier<SnowLedger>> ledgers = new LinkedHashMap<>();
        ledgers.put("a new ledger", SnowLedger::new);
        ledgers.put("hills alone", () -> Ledgers.withHills(4));
        ledgers.put("a full chain", () -> Ledgers.chain(15));
        ledgers.put("a full star", () -> Ledgers.star(15));
        ledgers.put("a melted branch", Ledgers::meltedBranch);
        ledgers.put("a ledger well used", Ledgers::wellUsed);
        ledgers.put("an invalid chain", () -> {
            SnowLedger ledger = Ledgers.chain(15);
            ledger.replaceFlake(1, 0, 8);
            ledger.repair(1);
            return ledger;
        });
        ledgers.put("all undone", () -> {
            SnowLedger ledger = Ledgers.chain(3);
            for (int i = 0; i < 7; i++) {
                ledger.undo();
            }
            return ledger;
        });
        ledgers.put("a full script buffer", () -> {
            SnowLedger ledger = Ledgers.chain(5);
            Check.type(ledger, "hill;melt 5;write 0,1,2,3,4;write 0,99;swap 7 0 12;mend 7;hi");
            ledger.renderBranch(5);
            return ledger;
        });
        return ledgers;
    }

    private static void everyCall(Method method, String where, Supplier<SnowLedger> made) {
        for (Object[] arguments : arguments(method.getParameterTypes())) {
            SnowLedger ledger = made.get();
            String what = where + ": " + method.getName() + Arrays.toString(arguments);
            check.due(what, "as listed", () -> outcome(method, ledger, arguments));
            check.due(what + ", then isConsistent", true, () -> ledger.isConsistent());
        }
    }

    private static String outcome(Method method, SnowLedger ledger, Object[] arguments) {
        try {
            method.invoke(ledger, arguments);
            return "as listed";
        } catch (IllegalAccessException e) {
            return "cannot be called";
        } catch (InvocationTargetException e) {
            return judged(method, e.getCause());
        }
    }

    private static String judged(Method method, Throwable thrown) {
        boolean listed = List.of(method.getExceptionTypes()).contains(thrown.getClass());
        StackTraceElement[] trace = thrown.getStackTrace();
        boolean own = trace.length > 0 && trace[0].getClassName().startsWith("SnowLedger");
        return listed && own ? "as listed" : thrown + (own ? "" : ", not by the class's own throw");
    }

    private static List<Object[]> arguments(Class<?>[] types) {
        List<Object[]> rows = new ArrayList<>();
        rows.add(new Object[types.length]);
        for (int at = 0; at < types.length; at++) {
            List<Object[]> longer = new ArrayList<>();
            for (Object[] row : rows) {
                for (Object value : values(types[at])) {
                    Object[] next = row.clone();
                    next[at] = value;
                    longer.add(next);
                }
            }
            rows = longer;
        }
        return rows;
    }

    private static List<Object> values(Class<?> type) {
        List<Object> values = new ArrayList<>();
        if (type == char.class) {
            for (char character : CHARACTERS) {
                values.add(character);
            }
        } else {
            for (int number : NUMBERS) {
                values.add(number);
            }
        }
        return values;
    }
}
