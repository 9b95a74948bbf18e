import java.lang.reflect.InvocationTargetException;
import java.lang.reflect.Method;
import java.lang.reflect.Modifier;
import java.util.ArrayList;
import java.util.Comparator;
import java.util.List;

/** Calls by luck with numbers of every kind: nothing is ever thrown, and what fails changes nothing. */
public final class CallTests {
    private static final int[] ODD = {-1, Integer.MIN_VALUE, Integer.MAX_VALUE, 60, 61, 300, 301, 900, 9999, 10000};
    private static final List<String> WITHOUT_STATUS = List.of("status", "top", "bottom", "feed", "fault");
    private static final String[] HOUSES = {"", PromiseTests.PLAIN, PromiseTests.LINE, PromiseTests.PAIR,
        "room a;person p in a;", "room a;room b;word w says ajar;word v says ajar ajar;door a b baize 9;"
        + "door b a open;person p in a knows v w;person q in b knows w v;person r in b deaf 9 knows v;"};
    private static final String[] DAYS = {"", "any;any;any;", "loop 99;loop 99;any;end;end;",
        "loop 9;close p 0 slam;any;open p 0;go p 0;when heard p > 3;forget p;end;end;"};

    private final Luck luck;
    private DoorTongue x = new DoorTongue();

    private CallTests(int seed) {
        luck = new Luck(seed);
    }

    public static void main(String[] args) throws IllegalAccessException {
        List<Method> methods = new ArrayList<>();
        for (Method method : DoorTongue.class.getDeclaredMethods()) {
            if (Modifier.isPublic(method.getModifiers())) {
                methods.add(method);
            }
        }
        methods.sort(Comparator.comparing(Method::getName));
        Check.due("calls of the public face", methods.size(), 56);
        for (int seed = 0; seed < 60; seed++) {
            Check.at("run " + seed);
            new CallTests(seed).run(methods);
        }
        System.exit(Check.close("CallTests"));
    }

    private void run(List<Method> methods) throws IllegalAccessException {
        Check.house(x, HOUSES[luck.below(HOUSES.length)]);
        Check.days(x, DAYS[luck.below(DAYS.length)]);
        for (int i = 0; i < 500; i++) {
            Method method = methods.get(luck.below(methods.size()));
            if (method.getName().equals("house") && luck.once(2)) {
                Check.feed(x, HOUSES[luck.below(HOUSES.length)]);
            }
            call(method);
        }
    }

    private void call(Method method) throws IllegalAccessException {
        Class<?>[] kinds = method.getParameterTypes();
        Object[] values = new Object[kinds.length];
        for (int i = 0; i < kinds.length; i++) {
            if (kinds[i] == boolean.class) {
                values[i] = luck.once(2);
            } else if (kinds[i] == long.class) {
                values[i] = luck.once(3) ? Long.MIN_VALUE : (long) luck.below(5);
            } else {
                values[i] = luck.once(8) ? ODD[luck.below(ODD.length)] : luck.below(luck.once(2) ? 4 : 2);
            }
        }
        String ahead = state();
        String call = method.getName() + java.util.Arrays.toString(values);
        try {
            Object answer = method.invoke(x, values);
            judge(method.getName(), call, answer, ahead);
        } catch (InvocationTargetException thrown) {
            Check.due(call + " threw " + thrown.getCause(), 1, 0);
        }
    }

    private void judge(String name, String call, Object answer, String ahead) {
        int status = x.status();
        Check.due(call + " STATUS is one", status >= 0 && status <= 9, true);
        if (WITHOUT_STATUS.contains(name) || status == 0) {
            return;
        }
        boolean none = answer.equals(Boolean.FALSE) || answer.equals(-1) || answer.equals(-1L);
        Check.due(call + " by STATUS " + status + " gives NONE", none, true);
        Check.same(call + " by STATUS " + status, state(), ahead);
        x.status();
    }

    /** All that can be told, by calls that change only the STATUS (and that is put back). */
    private String state() {
        int status = x.status();
        StringBuilder told = new StringBuilder(Check.all(x));
        for (int t = 0; t < 4; t++) {
            for (int i = 0; i < 3; i++) {
                told.append(x.read(t, i)).append(x.status());
            }
        }
        for (int i = 0; i < 5; i++) {
            told.append(',').append(x.lived(i));
        }
        putBack(status);
        return told.toString();
    }

    private void putBack(int status) {
        if (status == 0) {
            x.told(0);
        } else {
            x.told(-1);
        }
    }
}
