import java.lang.reflect.InvocationTargetException;
import java.lang.reflect.Method;
import java.util.LinkedHashMap;
import java.util.Map;
import java.util.Set;

/** Calls told as words, as "off(0, 100)", and all that an object tells without being changed by it. */
final class Calls {
    private Calls() {
    }

    /** Asks a HalvingMender, or a Model. */
    static long ask(Object x, String call) {
        String name = call.substring(0, call.indexOf('('));
        String inside = call.substring(call.indexOf('(') + 1, call.length() - 1);
        String[] words = inside.isEmpty() ? new String[0] : inside.split(", *");
        Object[] args = new Object[words.length];
        for (int k = 0; k < words.length; k++) {
            args[k] = number(words[k]);
        }
        for (Method m : x.getClass().getMethods()) {
            if (m.getName().equals(name) && m.getParameterCount() == args.length) {
                return told(x, m, args);
            }
        }
        throw new IllegalArgumentException("no such call: " + call);
    }

    private static int number(String word) {
        switch (word) {
            case "MIN":
                return Integer.MIN_VALUE;
            case "MAX":
                return Integer.MAX_VALUE;
            default:
                return Integer.decode(word);
        }
    }

    private static long told(Object x, Method m, Object[] args) {
        try {
            Object told = m.invoke(x, args);
            return told instanceof Boolean ? ((Boolean) told ? 1 : 0) : ((Integer) told).longValue();
        } catch (IllegalAccessException | InvocationTargetException e) {
            throw new IllegalStateException(m.getName(), e);
        }
    }

    /** Something of everything: BITS 0 to 3, SEEN two, KEPT 0, KEPT 1 without BITS, a CONVERSION, a BENCH, a FAULT. */
    static HalvingMender full() {
        HalvingMender x = new HalvingMender();
        x.keep(1);
        Due.text(x, "b1;b2;b4:1;b9;");
        x.keep(0);
        Due.text(x, "b1;b2:1;b3;b5:1;o1;d2;r2;n3;g2;");
        x.stick(1, 1);
        x.learn(3, 2);
        x.seed(777);
        x.heat(7);
        Due.drift(x, "[i<3?h-6:t]");
        x.pass(2);
        x.see(3, 2);
        x.see(-5, 1);
        Due.bench(x, "c3;h7;=9;");
        x.convert(6);
        x.write();
        Due.text(x, "b1;b0;");
        Due.tape(x, "b1;b2;b4;");
        return x;
    }

    /** As that, but without BITS: so without a CONVERSION, too. */
    static HalvingMender bare() {
        HalvingMender x = new HalvingMender();
        x.keep(1);
        Due.text(x, "b1;b2;b4:1;b9;");
        x.keep(0);
        x.back(1);
        x.set(0, 3);
        x.set(3, 5);
        x.seed(777);
        x.heat(7);
        Due.drift(x, "h");
        x.pass(2);
        x.see(3, 2);
        Due.bench(x, "h7;c3;");
        Due.drift(x, "1+");
        Due.tape(x, "b1;b2;b4;");
        return x;
    }

    /** What it tells, by the calls that ask; some ninety calls. */
    static Map<String, Long> shown(HalvingMender x) {
        Map<String, Long> all = new LinkedHashMap<>();
        for (int what = 0; what <= 12; what++) {
            put(all, x, "is(" + what + ")");
        }
        put(all, x, "fault()");
        put(all, x, "stopped()");
        for (int k = 0; k <= 4; k++) {
            put(all, x, "row(" + k + ")");
            put(all, x, "octet(" + k + ")");
        }
        for (int i = 0; i <= 3; i++) {
            for (int what = 0; what <= 5; what++) {
                put(all, x, "bit(" + i + ", " + what + ")");
            }
            for (int what = 0; what <= 3; what++) {
                put(all, x, "decision(" + i + ", " + what + ")");
            }
        }
        for (int what = 0; what <= 5; what++) {
            put(all, x, "converted(" + what + ")");
        }
        // what is KEPT, SEEN, and the DRIFT, as far as they can be asked
        for (int what = 0; what <= 2; what++) {
            put(all, x, "apart(" + what + ", -9, 30, 0)");
            put(all, x, "apart(0, -9, 30, " + what + ")");
            put(all, x, "faults(0, " + what + ")");
            put(all, x, "faults(1, " + what + ")");
            put(all, x, "plan(4, 40, " + what + ")");
            put(all, x, "due(" + 4 * what + ", 40)");
        }
        return all;
    }

    private static void put(Map<String, Long> all, HalvingMender x, String call) {
        all.put(call, ask(x, call));
    }

    /** Asks that all it tells, but for some calls, is as it was. */
    static void stays(Due due, String why, HalvingMender x, Map<String, Long> was, Set<String> but) {
        Map<String, Long> now = shown(x);
        for (String call : was.keySet()) {
            if (!but.contains(call)) {
                due.is("behind " + why + ", " + call, now.get(call), was.get(call));
            }
        }
    }
}
