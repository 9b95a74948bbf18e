import java.io.IOException;
import java.lang.reflect.InvocationTargetException;
import java.lang.reflect.Method;
import java.nio.file.Files;
import java.nio.file.Path;
import java.util.Arrays;
import java.util.Comparator;
import java.util.List;
import java.util.Set;
import java.util.TreeSet;

/** Runs each Edge alone, and sees that no promise and no STATUS of a call goes without one. */
public final class EdgeTests {
    private static final List<Class<?>> ALL = List.of(TrayEdges.class, TokenEdges.class, HouseTextEdges.class,
        DaysTextEdges.class, TapeEdges.class, ToldEdges.class, DeedEdges.class, HearingEdges.class,
        MeaningEdges.class, WayEdges.class, GameEdges.class, DaysEdges.class, MarkEdges.class, StatusEdges.class,
        StayEdges.class);
    private static final int PROMISES = 57;

    private EdgeTests() {
    }

    public static void main(String[] args) throws IOException, IllegalAccessException {
        String document = oneLine(Files.readString(Path.of("../shared/DOC.md")));
        Set<Integer> promises = new TreeSet<>();
        int edges = 0;
        for (Class<?> one : ALL) {
            Method[] methods = one.getDeclaredMethods();
            Arrays.sort(methods, Comparator.comparing(Method::getName));
            for (Method method : methods) {
                Edge edge = method.getAnnotation(Edge.class);
                if (edge != null) {
                    edges++;
                    promises.add(edge.promise());
                    Check.at(one.getName() + "." + method.getName() + ", promise " + edge.promise());
                    Check.due("the document says: " + edge.says(), document.contains(oneLine(edge.says())), true);
                    run(method);
                }
            }
        }
        Check.at("EdgeTests");
        for (int promise = 1; promise <= PROMISES; promise++) {
            Check.due("an edge of promise " + promise, promises.contains(promise), true);
        }
        eachStatus();
        System.out.println("EdgeTests: " + edges + " edges");
        System.exit(Check.close("EdgeTests"));
    }

    private static String oneLine(String text) {
        return text.replaceAll("\\s+", " ");
    }

    private static void run(Method method) throws IllegalAccessException {
        int ahead = Check.asked();
        try {
            method.invoke(null);
        } catch (InvocationTargetException thrown) {
            Check.due("it threw " + thrown.getCause(), 1, 0);
        }
        Check.due("it asks for something", Check.asked() > ahead, true);
    }

    private static void eachStatus() {
        for (String call : Statuses.calls()) {
            for (int status : Statuses.of(call)) {
                Check.due(call + "() with STATUS " + status + " was seen", Check.wasRefused(call, status), true);
            }
        }
    }
}
