import java.lang.reflect.Method;
import java.util.ArrayList;
import java.util.Arrays;
import java.util.Comparator;
import java.util.List;

/** Long runs of calls, asked of the program and of the Model; always the same runs. */
public final class ModelTest {
    private static final Due due = new Due("ModelTest");
    private static final int[] EDGES = {-1, 0, 1, 2, 3, 4, 5, 6, 7, 8, 9, 10, 11, 12, 13, 19, 20, 21, 40, 41, 50, 51,
        64, 65, 99, 100, 101, 1999, 2000, 2001, 4095, 4096, 100000, 100001, -99, -100, -100000, -100001,
        Integer.MAX_VALUE, Integer.MIN_VALUE};

    private static int chance = 7;
    /** One of so many arguments is an edge. */
    private static int tame = 25;
    private static List<Method> methods = new ArrayList<>();

    public static void main(String[] args) throws Exception {
        for (Method m : HalvingMender.class.getMethods()) {
            if (m.getDeclaringClass() == HalvingMender.class) {
                methods.add(m);
            }
        }
        methods.sort(Comparator.comparing(Method::getName));
        int runs = args.length > 0 ? Integer.parseInt(args[0]) : 1500;
        chance = args.length > 1 ? Integer.parseInt(args[1]) : chance;
        for (int run = 0; run < runs; run++) {
            oneRun(run);
        }
        due.end();
    }

    private static int any(int n) {
        chance = chance * 1664525 + 1013904223;
        return (int) ((chance >>> 1) / 2147483648.0 * n);
    }

    private static int from(int low, int high) {
        return low + any(high - low + 1);
    }

    private static void oneRun(int run) throws Exception {
        HalvingMender x = new HalvingMender();
        Model y = new Model();
        StringBuilder story = new StringBuilder();
        int calls = from(5, 60);
        tame = any(8) == 0 ? 3 : 25;
        for (int k = 0; k < calls; k++) {
            if (k == 0 && any(10) > 0 || any(12) == 0) {
                read(x, y, textOf(), "text", story);
            } else if (any(10) == 0) {
                read(x, y, driftOf(), "drift", story);
            } else if (any(12) == 0) {
                read(x, y, benchOf(), "bench", story);
            } else {
                ask(x, y, methods.get(any(methods.size())), story);
            }
        }
        for (int what = 0; what <= 12; what++) {
            due.is("run " + run + story + " is(" + what + ")", x.is(what), y.is(what));
        }
    }

    private static void read(HalvingMender x, Model y, String text, String call, StringBuilder story) throws Exception {
        String shown = text.length() > 400 ? text.substring(0, 400) : text;
        put(x, y, shown);
        story.append(" '").append(shown).append("' ");
        ask(x, y, methodOf(call), story);
        ask(x, y, methodOf("fault"), story);
    }

    private static Method methodOf(String name) {
        return methods.stream().filter(m -> m.getName().equals(name)).findFirst().get();
    }

    private static void put(HalvingMender x, Model y, String text) {
        Due.tape(x, text);
        y.end(0);
        for (int at = 0; at < text.length(); at += 20) {
            int[] five = new int[5];
            for (int k = 0; k < 20; k++) {
                five[k / 4] = five[k / 4] << 8 | (at + k < text.length() ? text.charAt(at + k) : 0);
            }
            y.feed(five[0], five[1], five[2], five[3], five[4]);
        }
        y.end(text.length());
    }

    private static void ask(HalvingMender x, Model y, Method m, StringBuilder story) throws Exception {
        Object[] args = new Object[m.getParameterCount()];
        for (int k = 0; k < args.length; k++) {
            args[k] = argument(m.getName(), k);
        }
        Method twin = Model.class.getMethod(m.getName(), m.getParameterTypes());
        story.append(' ').append(m.getName()).append(Arrays.toString(args));
        due.is(story.toString(), number(m.invoke(x, args)), number(twin.invoke(y, args)));
    }

    private static long number(Object told) {
        return told instanceof Boolean ? ((Boolean) told ? 1 : 0) : ((Integer) told).longValue();
    }

    /** Mostly what the call takes, now and then an edge. */
    private static int argument(String name, int k) {
        if (any(tame) == 0) {
            return EDGES[any(EDGES.length)];
        }
        switch (name) {
            case "is":
                return any(14);
            case "bit":
                return k == 0 ? any(8) : any(7);
            case "off":
                return k == 0 ? any(8) : from(-20, 30);
            case "set":
                return k == 0 ? any(5) : any(3) == 0 ? from(-10, 60) : any(8);
            case "stick":
                return k == 0 ? any(8) : from(-1, 1);
            case "seed":
                return from(-1000000, 1000000);
            case "decision":
            case "forgiven":
                return k == 0 && name.equals("forgiven") ? from(-10, 400) : any(8);
            case "learn":
                return k == 0 ? from(1, 6) : from(1, 8);
            case "histogram":
            case "often":
                return k == 0 ? from(-30, 50) : k == 1 ? from(40, 500) : k == 2 ? from(1, 9) : any(10);
            case "first":
                return k == 0 ? from(-30, 50) : k == 1 ? from(40, 500) : any(200);
            case "crowd":
                return k == 0 ? any(99999) : k == 1 ? from(1, 5) : k == 2 ? any(9) : k == 3 ? from(1, 5) : any(3);
            case "drawn":
            case "draw":
                return k == 0 ? from(2, 12) : k == 1 ? any(101) : k == 2 ? any(12) : any(2);
            case "fewest":
                return k == 0 ? any(101) : from(1, 300);
            case "loosest":
                return k == 0 ? from(2, 12) : from(1, 1000);
            case "due":
                return k == 0 ? any(60) : any(300);
            case "plan":
                return k == 0 ? from(1, 6) : k == 1 ? from(1, 10) : any(3);
            case "apart":
                return k == 0 ? any(3) : k == 1 ? from(-30, 50) : k == 2 ? from(40, 500) : any(3);
            case "mean":
                return k == 0 ? from(-30, 400) : from(1, 20);
            case "pass":
                return from(1, 12);
            case "heat":
                return any(100);
            case "keep":
            case "back":
                return any(4);
            case "faults":
                return k == 0 ? any(2) : any(3);
            case "octet":
            case "slack":
            case "row":
                return any(9);
            case "see":
                return k == 0 ? from(-5, 60) : any(60);
            case "tightest":
            case "gap":
                return any(3);
            case "end":
                return any(50);
            case "feed":
                return any(2) == 0 ? from(-2000000000, 2000000000) : 0x62313B31 + any(300);
            default:
                return from(-20, 400);
        }
    }

    // ---- texts: mostly well, some with a byte spoilt, lost or many times over ----

    private static String spoilt(String text) {
        if (any(4) > 0 || text.isEmpty()) {
            return text;
        }
        int at = any(text.length());
        String signs = "b1;:-odrng0,9c=lphsfx([<?])+*i5";
        switch (any(5)) {
            case 0:
                return text.substring(0, at);
            case 4:
                // a digit many times over makes numbers that are too long
                return text.substring(0, at) + text.substring(at, at + 1).repeat(from(2, 5)) + text.substring(at + 1);
            case 1:
                return text.substring(0, at) + text.substring(at + 1);
            case 2:
                return text.substring(0, at) + signs.charAt(any(signs.length())) + text.substring(at);
            default:
                return text.substring(0, at) + signs.charAt(any(signs.length())) + text.substring(at + 1);
        }
    }

    private static String textOf() {
        StringBuilder t = new StringBuilder();
        int bits = any(20) == 0 ? any(14) : from(2, 8);
        int below = 0;
        for (int i = 0; i < bits; i++) {
            int size = any(40) == 0 ? any(10001) : 1 + below * from(30, 105) / 100;
            below += size;
            t.append('b').append(size);
            if (any(3) == 0) {
                t.append(':').append(any(20) == 0 ? from(-101, 101) : from(-2, 6));
            }
            t.append(';');
            if (any(6) == 0) {
                t.append("odrng".charAt(any(5))).append(any(6)).append(';');
            }
        }
        if (any(5) == 0) {
            t.append("o-").append(any(12)).append(';');
        }
        if (any(5) == 0) {
            t.append("r").append(any(4)).append(";d").append(any(12)).append(';');
        }
        if (any(6) == 0) {
            t.append("odrng".charAt(any(5))).append(from(0, 110)).append(';');
        }
        return spoilt(t.toString());
    }

    private static String driftOf() {
        if (any(12) == 0) {
            return "";
        }
        return spoilt(sumOf(from(0, 5)));
    }

    private static String sumOf(int deep) {
        StringBuilder t = new StringBuilder(productOf(deep));
        while (any(3) == 0) {
            t.append("+-".charAt(any(2))).append(productOf(deep));
        }
        return t.toString();
    }

    private static String productOf(int deep) {
        StringBuilder t = new StringBuilder(thingOf(deep));
        while (any(4) == 0) {
            t.append("*/%".charAt(any(3))).append(thingOf(deep));
        }
        return t.toString();
    }

    private static String thingOf(int deep) {
        int kind = deep <= 0 ? any(6) : any(10);
        switch (kind) {
            case 0:
                return "" + any(any(10) == 0 ? 10010 : 12);
            case 6:
                return "(" + sumOf(deep - 1) + ")";
            case 7:
                return "-" + thingOf(deep - 1);
            case 8:
            case 9:
                return "[" + sumOf(deep - 2) + "<=".charAt(any(2)) + sumOf(deep - 2) + "?" + sumOf(deep - 2) + ":"
                    + sumOf(deep - 2) + "]";
            default:
                return "" + "iswht".charAt(kind - 1);
        }
    }

    private static String benchOf() {
        StringBuilder t = new StringBuilder();
        int acts = any(10) == 0 ? from(38, 43) : any(9);
        for (int n = 0; n < acts; n++) {
            switch (any(10)) {
                case 0:
                    t.append('l').append(any(7)).append(',').append(any(10));
                    break;
                case 1:
                    t.append('p').append(any(5));
                    break;
                case 2:
                    t.append('h').append(any(103));
                    break;
                case 3:
                    t.append('s').append(any(6)).append(',').append(from(-1, 1));
                    break;
                case 4:
                    t.append('o').append(any(6)).append(',').append(from(-5, 9));
                    break;
                case 5:
                    t.append('f');
                    break;
                case 6:
                    t.append('x').append(from(-99, 999));
                    break;
                case 7:
                    t.append(any(3) == 0 ? "=1" : "c" + from(-20, 300));
                    break;
                default:
                    t.append('c').append(from(-20, 300));
                    break;
            }
            t.append(';');
        }
        return spoilt(t.toString());
    }
}
