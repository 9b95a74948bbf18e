import java.lang.reflect.InvocationTargetException;
import java.lang.reflect.Method;
import java.lang.reflect.Modifier;
import java.util.ArrayList;
import java.util.Arrays;
import java.util.Comparator;
import java.util.List;

/**
 * Calls by luck with numbers of every kind: nothing is ever thrown, each STATUS is one that the promise names,
 * and a twin to whom only what was not refused is done is like the object at the end.
 */
public final class CallTests {
    private static final int RUNS = 400;
    private static final int CALLS = 100;
    private static final int[] ODD = {-1, Integer.MIN_VALUE, Integer.MAX_VALUE, 60, 61, 300, 301, 900, 9999, 10000};
    private static final List<String> WITHOUT_STATUS = List.of("status", "top", "bottom", "feed", "fault");
    private static final String[] HOUSES = {"", PromiseTests.PLAIN, PromiseTests.LINE, PromiseTests.PAIR,
        "room a;person p in a;", "room a;room b;word w says ajar;word v says ajar ajar;door a b baize 9;"
        + "door b a open;person p in a knows v w;person q in b knows w v;person r in b deaf 9 knows v;"};
    private static final String[] DAYS = {"", "any;any;any;", "loop 99;loop 99;any;end;end;",
        "loop 9;close p 0 slam;any;open p 0;go p 0;when heard p > 3;forget p;end;end;"};

    private final Luck luck;
    private final DoorTongue x = new DoorTongue();
    private final DoorTongue twin = new DoorTongue();

    private CallTests(int seed) {
        luck = new Luck(seed);
    }

    public static void main(String[] args) throws IllegalAccessException {
        List<Method> methods = new ArrayList<>();
        for (Method method : DoorTongue.class.getDeclaredMethods()) {
            if (Modifier.isPublic(method.getModifiers())) {
                methods.add(method);
            }
        }
        methods.sort(Comparator.comparing(Method::getName));
        Check.due("calls of the public face", methods.size(), 56);
        for (int seed = 0; seed < RUNS; seed++) {
            Check.at("run " + seed);
            new CallTests(seed).run(methods);
        }
        System.exit(Check.close("CallTests"));
    }

    private void run(List<Method> methods) throws IllegalAccessException {
        String house = HOUSES[luck.below(HOUSES.length)];
        String days = DAYS[luck.below(DAYS.length)];
        for (DoorTongue one : List.of(x, twin)) {
            Check.house(one, house);
            Check.days(one, days);
        }
        for (int i = 0; i < CALLS; i++) {
            Method method = methods.get(luck.below(methods.size()));
            if (method.getName().equals("house") && luck.once(3)) {
                String other = HOUSES[luck.below(HOUSES.length)];
                Check.feed(x, other);
                Check.feed(twin, other);
            }
            call(method);
        }
        Check.same("all", state(x), state(twin));
    }

    private Object[] someFor(Class<?>[] kinds) {
        Object[] values = new Object[kinds.length];
        for (int i = 0; i < kinds.length; i++) {
            if (kinds[i] == boolean.class) {
                values[i] = luck.once(2);
            } else if (kinds[i] == long.class) {
                values[i] = luck.once(3) ? Long.MIN_VALUE : (long) luck.below(5);
            } else {
                values[i] = luck.once(8) ? ODD[luck.below(ODD.length)] : luck.below(luck.once(2) ? 4 : 2);
            }
        }
        return values;
    }

    private void call(Method method) throws IllegalAccessException {
        Object[] values = someFor(method.getParameterTypes());
        String name = method.getName();
        String call = name + Arrays.toString(values);
        try {
            Object answer = method.invoke(x, values);
            if (WITHOUT_STATUS.contains(name)) {
                method.invoke(twin, values);
                return;
            }
            int status = x.status();
            Check.due(call + " STATUS " + status + " is one of its own", Statuses.can(name, status), true);
            if (status == 0 || status == 9) {
                Check.due(call + " once more", answer.equals(method.invoke(twin, values)), true);
            }
            if (status != 0) {
                boolean none = answer.equals(Boolean.FALSE) || answer.equals(-1) || answer.equals(-1L);
                Check.due(call + " by STATUS " + status + " gives NONE", none, true);
            }
        } catch (InvocationTargetException thrown) {
            Check.due(call + " threw " + thrown.getCause(), 1, 0);
        }
    }

    private static String state(DoorTongue one) {
        StringBuilder told = new StringBuilder(Check.all(one)).append(one.fault(0)).append(one.fault(1));
        for (int t = 0; t < 4; t++) {
            for (int i = 0; i < 3; i++) {
                told.append(' ').append(one.read(t, i)).append('/').append(one.status());
            }
        }
        for (int i = 0; i < 5; i++) {
            told.append(',').append(one.lived(i));
        }
        told.append(' ').append(one.live(5)).append(' ').append(one.told(5)).append(' ').append(one.undo());
        return told.append(' ').append(one.told(5)).append(' ').append(one.feed(0, 0, 0, 0, 0)).toString();
    }
}
