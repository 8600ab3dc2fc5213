import java.lang.reflect.InvocationTargetException;
import java.lang.reflect.Method;
import java.lang.reflect.Modifier;
import java.util.ArrayList;
import java.util.Arrays;
import java.util.Comparator;
import java.util.HashMap;
import java.util.List;
import java.util.Map;
import java.util.TreeMap;

/** Long runs of calls, each made on the class and on the model, with the answers compared. */
public final class ModelTest {
    private static final int RUNS = 1000;
    /** An object may be used for so many calls. */
    private static final int CALLS = 512;
    private static final int LEAST_OPERATIONS = 32;
    private static final int MOST_OPERATIONS = 384;
    private static final int MANY_WRONG = 20;
    /** How often each operation is drawn; the other methods are drawn now and then. */
    private static final String[] OFTEN = {
        "put", "move", "move", "narrow", "narrow", "restrict", "step", "step", "step", "load", "load", "load",
        "store", "store", "store", "store", "store", "store", "seal", "unseal", "call", "call", "callSealed",
        "callSealed", "leave", "get", "get", "get", "free", "free", "sweep", "setQuota",
    };

    /** How often each thing is asked behind the operations of a run. */
    private static final String[] ASKED = {
        "value", "isRight", "ask", "ask", "cell", "cell", "hasRight", "stateOf", "counted", "traps", "runs", "depth",
        "reaches", "reaches", "reaches", "hasReached", "hasReached", "checksum", "rightShare", "meanReach", "isSound",
    };

    private final Check check = new Check("ModelTest");
    private final Map<String, Method> real = methodsOf(Sealhouse.class);
    private final Map<String, Method> told = methodsOf(Model.class);
    private final List<String> names = new ArrayList<>(real.keySet());
    private final Map<String, Integer> seen = new HashMap<>();
    private long state;
    private Sealhouse x;
    private Model model;

    private ModelTest() {
        names.sort(Comparator.naturalOrder());
    }

    private static Map<String, Method> methodsOf(Class<?> c) {
        Map<String, Method> methods = new HashMap<>();
        for (Method m : c.getDeclaredMethods()) {
            if (c == Model.class || Modifier.isPublic(m.getModifiers())) {
                m.setAccessible(true);
                methods.put(m.getName(), m);
            }
        }
        return methods;
    }

    public static void main(String[] args) {
        new ModelTest().all();
    }

    private void all() {
        for (int run = 0; run < RUNS && check.wrongOnes() < MANY_WRONG; run++) {
            state = 77 + run;
            x = new Sealhouse();
            model = new Model();
            int sloppy = run % 4 == 0 ? 10 : run % 4 == 1 ? 60 : 300;
            int operations = LEAST_OPERATIONS + draw(MOST_OPERATIONS - LEAST_OPERATIONS);
            for (int i = 0; i < CALLS && check.wrongOnes() < MANY_WRONG; i++) {
                if (i < operations) {
                    one(run, i, sloppy);
                } else {
                    question(run, i);
                }
            }
        }
        for (String due : new String[] {"t", "s", "p", "b", "l", "q", "m", "d", "f"}) {
            check.yes("a run with the trap " + due, seen.getOrDefault(due, 0) > 20);
        }
        System.out.println("ModelTest saw " + new TreeMap<>(seen));
        check.end();
    }

    private int draw(int bound) {
        state = state * 6364136223846793005L + 1442695040888963407L;
        return (int) ((state >>> 33) % bound);
    }

    private void one(int run, int i, int sloppy) {
        String name = draw(12) == 0 ? names.get(draw(names.size())) : OFTEN[draw(OFTEN.length)];
        if (run % 4 == 3 && draw(3) == 0) {
            name = "call";
        }
        Method m = real.get(name);
        Object[] args = new Object[m.getParameterCount()];
        for (int a = 0; a < args.length; a++) {
            args[a] = m.getParameterTypes()[a] == char.class ? (Object) "tspblqmdfx-".charAt(draw(11))
                    : (Object) (draw(sloppy) == 0 ? draw(140) - 20 : number(name, a, args));
        }
        Object due = answer(told.get(name), model, args);
        Object got = answer(m, x, args);
        check.same("run " + run + ", call " + i + ", " + name + Arrays.toString(args), got, due);
        if (m.getReturnType() == char.class && !name.equals("stateOf")) {
            seen.merge(String.valueOf(got), 1, Integer::sum);
        }
    }

    private static Object answer(Method m, Object target, Object[] args) {
        try {
            return m.invoke(target, args);
        } catch (InvocationTargetException e) {
            return "throws " + e.getCause().getClass().getSimpleName();
        } catch (IllegalAccessException e) {
            throw new AssertionError(e);
        }
    }

    /** A number that mostly lets the call go well. */
    private int number(String name, int place, Object[] args) {
        Model.Value[] held = model.now().registers;
        switch (name) {
            case "put":
                return place == 0 ? draw(6) : draw(400) - 200;
            case "move":
            case "load":
                return place == 0 ? draw(6) : aRegister(held, name.equals("load") ? "inside" : "any");
            case "store":
                return aRegister(held, place == 0 ? "inside" : "any");
            case "seal":
            case "restrict":
            case "step":
            case "narrow":
                return place == 0 ? draw(6) : place == 1 ? aRegister(held, "open") : more(name, place, args, held);
            case "unseal":
                return place == 0 ? draw(6) : aRegister(held, "own");
            case "callSealed":
                return aRegister(held, "sealed");
            case "free":
                return aRegister(held, "heap");
            case "call":
            case "counted":
            case "reaches":
            case "hasReached":
                return place == 0 ? draw(4) : draw(96);
            case "get":
                return place == 0 ? draw(6) : 1 + draw(draw(3) == 0 ? 32 : 6);
            case "setQuota":
                return place == 0 ? draw(4) : 8 + draw(25);
            case "cell":
            case "hasRight":
            case "stateOf":
                return draw(96);
            default:
                return draw(8);
        }
    }

    private int more(String name, int place, Object[] args, Model.Value[] held) {
        int from = (Integer) args[1];
        Model.Value v = held[from < 0 || from > 7 ? 0 : from];
        if (name.equals("restrict")) {
            return 127 - (draw(4) == 0 ? draw(128) : 1 << draw(7));
        }
        if (name.equals("step")) {
            return v.isRight() && draw(5) > 0 ? v.base() + draw(v.top() - v.base()) - v.address() : draw(60) - 30;
        }
        if (place == 2) {
            return v.isRight() ? v.base() + draw(v.top() - v.base()) : draw(96);
        }
        int base = Math.max(0, Math.min(95, (Integer) args[2]));
        return 1 + draw(draw(6) == 0 ? 96 : Math.max(1, v.top() - base));
    }

    private int aRegister(Model.Value[] held, String kind) {
        for (int tries = 0; tries < 24; tries++) {
            int r = draw(8);
            Model.Value v = held[r];
            boolean open = v.isRight() && v.seal() == 0;
            boolean fits = switch (kind) {
                case "open" -> open;
                case "inside" -> open && v.may(1) && v.address() >= v.base() && v.address() < v.top();
                case "own" -> v.seal() == model.now().compartment + 1;
                case "sealed" -> v.seal() != 0;
                case "heap" -> open && v.base() >= 64;
                default -> v.isRight() || draw(4) == 0;
            };
            if (fits) {
                return r;
            }
        }
        return draw(8);
    }

    /** Asks one of the things that can be asked, of the class and of the model. */
    private void question(int run, int i) {
        String name = ASKED[draw(ASKED.length)];
        Method m = real.get(name);
        Object[] args = new Object[m.getParameterCount()];
        for (int a = 0; a < args.length; a++) {
            if (m.getParameterTypes()[a] == char.class) {
                args[a] = name.equals("ask") ? "btps".charAt(draw(4)) : "tspblqmdf".charAt(draw(9));
            } else {
                args[a] = number(name, a, args);
            }
        }
        check.same("run " + run + ", question " + i + ", " + name + Arrays.toString(args), answer(m, x, args),
                answer(told.get(name), model, args));
    }
}
