import java.lang.reflect.Method;
import java.util.List;
import java.util.TreeMap;

/** Every promise and every part of the terms has tests of boundary cases, as their remarks tell. */
public final class RemarksTest {
    private static final List<Class<? extends Bounds>> CLASSES = List.of(EveningBoundsTest.class, RulesBoundsTest.class, MinutesBoundsTest.class, PlansBoundsTest.class,
        StrangersBoundsTest.class, HostBoundsTest.class);

    public static void main(String[] args) {
        TreeMap<String, Integer> tests = new TreeMap<>();
        for (Class<? extends Bounds> each : CLASSES) {
            for (Method test : Bounds.tests(each)) {
                String remark = test.getAnnotation(Remark.class).value();
                tests.merge(remark.substring(0, remark.indexOf(": ")), 1, Integer::sum);
            }
        }
        int missing = 0;
        for (int p = 1; p <= 53; p++) {
            missing += tests.containsKey("Promise " + p) ? 0 : say("Promise " + p);
        }
        for (String part : List.of("Terms", "Terms 1", "Terms 2", "Terms 3")) {
            missing += tests.containsKey(part) ? 0 : say(part);
        }
        System.out.println("RemarksTest: " + tests.size() + " parts of the document have tests of boundary cases, " + missing + " have none");
        if (missing > 0) {
            System.exit(1);
        }
    }

    private static int say(String part) {
        System.out.println(part + " has no test of a boundary case");
        return 1;
    }
}
