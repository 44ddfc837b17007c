import java.lang.reflect.Method;
import java.lang.reflect.Modifier;
import java.util.ArrayList;
import java.util.Arrays;
import java.util.Comparator;
import java.util.List;
import java.util.Map;
import java.util.Random;

/** Long runs of calls, always the same ones, that the class and the Model must answer alike. */
public final class ModelTest {
    private static final int RUNS = 400;
    private static final int CALLS = 512;

    // what each argument is: s sheet, t tight, o round, a digit: what, up to that number, k number, p place, f facet,
    // r rule or strip, d doing, g side, l law, x seed, n times, b bar, i image
    private static final Map<String, String> ARGUMENTS = Map.ofEntries(
        Map.entry("feed", "xxxxx"), Map.entry("end", "k"), Map.entry("text", "3"), Map.entry("sheet", "gglx"),
        Map.entry("press", "st"), Map.entry("fold", "s1p"), Map.entry("turn", "s"), Map.entry("done", "ds"),
        Map.entry("facet", "sf4"), Map.entry("ridge", "sf6"), Map.entry("of", "s6"), Map.entry("length", "so"),
        Map.entry("adds", "so"), Map.entry("expected", "st1"), Map.entry("foretold", "so"), Map.entry("miss", "soo"),
        Map.entry("guess", "ss"), Map.entry("curve", "s1"), Map.entry("sizes", "s2"), Map.entry("classes", "sk"),
        Map.entry("apart", "ss"), Map.entry("likest", "s"), Map.entry("seen", "rs2"), Map.entry("right", "rs1"),
        Map.entry("often", "rss"), Map.entry("corners", "s4"), Map.entry("flat", "s"), Map.entry("strength", "st"),
        Map.entry("strip", "r5"), Map.entry("beside", "sf"), Map.entry("most", "s"), Map.entry("steps", "sff"),
        Map.entry("heart", "s1"), Map.entry("after", "ds2"), Map.entry("alike", "sd"), Map.entry("which", "s"),
        Map.entry("runs", "dsxnb"), Map.entry("until", "stp"), Map.entry("halves", "gg"), Map.entry("count", "7"),
        Map.entry("image", "i"), Map.entry("back", "i"));

    private static final int[] WILD = {Integer.MIN_VALUE, Integer.MIN_VALUE + 1, -2, -1, 6, 60, 61, 200, 400, Integer.MAX_VALUE};

    private static int wrong = 0;

    private final Random random;
    private final Texts texts;
    private final CrumpledSheet sheet = new CrumpledSheet();
    private final Model model = new Model();
    private final List<String> told = new ArrayList<>();
    private int calls = 0;

    private ModelTest(int run) {
        random = new Random(run);
        texts = new Texts(random);
    }

    private int argument(char sort) {
        if (random.nextInt(40) == 0) return random.nextBoolean() ? random.nextInt() : WILD[random.nextInt(WILD.length)];
        if (sort >= '0' && sort <= '9') return random.nextInt(sort - '0' + 1) + (random.nextInt(12) == 0 ? 1 : 0);
        return switch (sort) {
            case 's' -> random.nextInt(Math.max(1, model.count(0)) + (random.nextInt(12) == 0 ? 1 : 0));
            case 't' -> random.nextInt(8) == 0 ? random.nextInt(103) - 1 : 1 + random.nextInt(99);
            case 'o' -> random.nextInt(random.nextInt(5) == 0 ? 63 : 9);
            case 'k' -> random.nextInt(18) - 1;
            case 'p' -> random.nextInt(random.nextInt(4) == 0 ? 203 : 30);
            case 'f' -> random.nextInt(random.nextInt(3) == 0 ? 210 : 6);
            case 'r', 'd', 'l' -> random.nextInt(random.nextInt(8) == 0 ? 7 : 2);
            case 'g' -> random.nextInt(5) == 0 ? random.nextInt(1002) : 2 + random.nextInt(random.nextInt(3) == 0 ? 199 : 40);
            case 'x' -> random.nextInt() >>> random.nextInt(31);
            case 'n' -> random.nextInt(12);
            case 'b' -> random.nextInt(random.nextInt(9) == 0 ? 100010 : 600);
            default -> random.nextInt(5);
        };
    }

    private Object[] arguments(String name) {
        String sorts = ARGUMENTS.get(name);
        Object[] all = new Object[sorts.length()];
        for (int i = 0; i < all.length; i++) all[i] = argument(sorts.charAt(i));
        return all;
    }

    private boolean same(Method method, Object... arguments) throws ReflectiveOperationException {
        Method other = Model.class.getMethod(method.getName(), method.getParameterTypes());
        Object want = other.invoke(model, arguments);
        Object got = method.invoke(sheet, arguments);
        told.add(method.getName() + Arrays.toString(arguments) + " " + got);
        calls++;
        if (want.equals(got)) return true;
        wrong++;
        System.out.println("call " + calls + ": " + told.get(told.size() - 1) + ", due is " + want);
        return false;
    }

    private static Method method(String name) {
        return Arrays.stream(CrumpledSheet.class.getMethods()).filter(m -> m.getName().equals(name)).findFirst().get();
    }

    private static List<Method> face() {
        List<Method> all = new ArrayList<>();
        for (Method m : CrumpledSheet.class.getDeclaredMethods()) {
            if (Modifier.isPublic(m.getModifiers())) all.add(m);
        }
        all.sort(Comparator.comparing(Method::getName));
        return all;
    }

    private boolean tell(int sort) throws ReflectiveOperationException {
        String text = texts.make(sort);
        if (model.count(7) > 0 && !same(method("end"), 0)) return false;
        for (int i = 0; i < text.length(); i += 20) {
            Object[] numbers = new Object[5];
            for (int n = 0; n < 5; n++) {
                int number = 0;
                for (int b = 0; b < 4; b++) {
                    int at = i + 4 * n + b;
                    number = number << 8 | (at < text.length() ? text.charAt(at) : ' ');
                }
                numbers[n] = number;
            }
            if (!same(method("feed"), numbers)) return false;
        }
        return (text.length() % 20 == 0 || random.nextInt(4) == 0 || same(method("end"), text.length()))
            && same(method("text"), sort);
    }

    private boolean run(int texts) throws ReflectiveOperationException {
        List<Method> face = face();
        for (int n = 0; n < texts; n++) {
            for (int sort = 0; sort < 4; sort++) {
                if (!tell(sort)) return false;
            }
        }
        while (calls < CALLS - 50) {
            int kind = random.nextInt(60);
            boolean fine;
            if (kind == 0) {
                fine = tell(random.nextInt(4));
            } else if (kind == 1 || model.count(0) == 0) {
                fine = same(method("sheet"), arguments("sheet"));
            } else if (kind < 8) {
                fine = same(method("press"), arguments("press"));
            } else if (kind < 10) {
                fine = same(method("fold"), arguments("fold"));
            } else if (kind == 10) {
                fine = same(method("done"), arguments("done"));
            } else {
                Method any = face.get(random.nextInt(face.size()));
                fine = same(any, arguments(any.getName()));
            }
            if (!fine) return false;
        }
        return true;
    }

    public static void main(String[] args) throws ReflectiveOperationException {
        int runs = args.length > 0 ? Integer.parseInt(args[0]) : RUNS;
        for (int run = 0; run < runs; run++) {
            ModelTest test = new ModelTest(run);
            // some runs begin with nothing told
            if (!test.run(run % 10 == 0 ? 0 : 2)) {
                System.out.println("run " + run + ":");
                test.told.forEach(line -> System.out.println("  " + line));
                break;
            }
        }
        System.out.println(wrong == 0 ? "all runs are answered alike" : "not alike");
        if (wrong != 0) System.exit(1);
    }
}
