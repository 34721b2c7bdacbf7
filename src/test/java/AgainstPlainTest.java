import java.lang.reflect.Method;
import java.util.ArrayList;
import java.util.Arrays;
import java.util.Comparator;
import java.util.HashMap;
import java.util.List;
import java.util.Map;
import java.util.Random;

/** Runs of calls by lot, each answer compared with that of PlainRounds. */
public final class AgainstPlainTest {
    private static final int RUNS = Integer.getInteger("runs", 700);
    private static final Map<String, Method> PLAIN = new HashMap<>();
    private static final List<Method> FACE = new ArrayList<>();
    private static final int[] ODD_NUMBERS = {0, 1, -1, 2, -2, 7, 3, Integer.MIN_VALUE, Integer.MAX_VALUE, -10, 100, 1 << 24};

    private final Random random;
    private final PostmanRounds rounds = new PostmanRounds();
    private final PlainRounds plain = new PlainRounds();
    private final StringBuilder told = new StringBuilder();
    private int wrong = 0;

    private AgainstPlainTest(long seed) {
        random = new Random(seed);
    }

    public static void main(String[] args) throws Exception {
        for (Method m : PlainRounds.class.getDeclaredMethods()) {
            PLAIN.put(m.getName() + Arrays.toString(m.getParameterTypes()), m);
        }
        for (Method m : PostmanRounds.class.getDeclaredMethods()) {
            if (java.lang.reflect.Modifier.isPublic(m.getModifiers())) {
                FACE.add(m);
            }
        }
        FACE.sort(Comparator.comparing(Method::getName));
        long first = Long.getLong("seed", 1);
        for (long seed = first; seed < first + RUNS; seed++) {
            AgainstPlainTest run = new AgainstPlainTest(seed);
            run.go();
            if (run.wrong > 0) {
                System.out.println("seed " + seed + ":\n" + run.told);
                System.exit(1);
            }
        }
        System.out.println(RUNS + " runs are alike");
    }

    private void go() throws Exception {
        int streets = random.nextInt(9);
        int corners = 2 + random.nextInt(5);
        int longest = random.nextInt(3) == 0 ? 99 : 1 + random.nextInt(6);
        for (int i = 0; i < streets; i++) {
            lay(corners, longest);
        }
        for (int i = 0; i < 60 && wrong == 0; i++) {
            if (random.nextInt(12) == 0) {
                tellMap();
            } else if (random.nextInt(12) == 0) {
                tellRound();
            } else if (random.nextInt(40) == 0) {
                tellTooMuch();
            } else {
                anyCall();
            }
        }
        for (int what = -1; what <= 17 && wrong == 0; what++) {
            call("count", what);
        }
        for (int i = 0; i < 26 && wrong == 0; i++) {
            call("spliced", i - 1);
            call("step", i, random.nextInt(5));
        }
    }

    private void lay(int corners, int longest) throws Exception {
        int from = random.nextInt(corners);
        int to = (from + 1 + random.nextInt(corners - 1)) % corners;
        call("streets", from, to, 1 + random.nextInt(longest));
        int street = plain.count(0) - 1;
        if (random.nextInt(3) > 0) {
            call("kind", street, random.nextInt(6), random.nextInt(10));
        }
    }

    private void tellMap() throws Exception {
        StringBuilder text = new StringBuilder();
        int statements = 1 + random.nextInt(3);
        for (int i = 0; i < statements; i++) {
            text.append(statement());
        }
        int change = random.nextInt(6);
        if (change == 0) {
            text.setCharAt(random.nextInt(text.length()), (char) (random.nextInt(4) == 0 ? random.nextInt(256) : "skxlha5;z"
                    .charAt(random.nextInt(9))));
        } else if (change == 1) {
            text.setLength(random.nextInt(text.length()));
        }
        for (int i = 0; i < text.length(); i++) {
            call("letter", text.charAt(i));
        }
        call("map");
    }

    private String statement() {
        int digit = random.nextInt(random.nextInt(4) == 0 ? 10 : 6);
        int street = random.nextInt(Math.max(1, plain.count(0) + (random.nextInt(4) == 0 ? 2 : 0)));
        switch (random.nextInt(5)) {
            case 0: return "s" + (char) ('a' + random.nextInt(6)) + (char) ('a' + random.nextInt(random.nextInt(4) == 0 ? 9 : 6))
                    + random.nextInt(3) + random.nextInt(10) + ";";
            case 1: return "k" + street % 10 + digit + random.nextInt(10) + ";";
            case 2: return "l" + street % 10 + random.nextInt(3) + random.nextInt(5) + ";";
            case 3: return "x" + street % 10 + ";";
            default: return "h" + (char) ('a' + random.nextInt(random.nextInt(4) == 0 ? 26 : 6)) + ";";
        }
    }

    /** The corners of the round, now and then with something wrong. */
    private void tellRound() throws Exception {
        call("clear");
        List<Integer> corners = new ArrayList<>(List.of(plain.count(4)));
        for (int i = 0; i < plain.round(1); i++) {
            corners.add(plain.step(i, 2));
        }
        int change = random.nextInt(5);
        if (change == 0) {
            corners.set(random.nextInt(corners.size()), random.nextInt(10));
        } else if (change == 1) {
            corners.add(random.nextInt(6));
        } else if (change > 2) {
            corners = corners.subList(0, random.nextInt(corners.size() + 1));
        }
        for (int corner : corners) {
            call("row", corner);
        }
        for (int i = 0; i < 3; i++) {
            call("whatIs", random.nextInt(8), random.nextInt(2));
        }
        if (random.nextInt(3) > 0) {
            call("judge");
        }
    }

    private void tellTooMuch() throws Exception {
        for (int i = 0; i < 98; i++) {
            call("letter", i < 94 ? "sab05;".charAt(i % 6) : 's');
        }
        call("map");
        for (int i = 0; i < 33; i++) {
            call("row", i % 10);
        }
    }

    private void anyCall() throws Exception {
        Method m = FACE.get(random.nextInt(FACE.size()));
        boolean isHeavy = m.getName().equals("lost") || m.getName().equals("lots");
        if (isHeavy && plain.count(0) > 5 && random.nextInt(3) > 0) {
            return;
        }
        Object[] numbers = new Object[m.getParameterCount()];
        for (int i = 0; i < numbers.length; i++) {
            numbers[i] = number(m.getName(), i);
        }
        call(m.getName(), numbers);
    }

    private int number(String name, int i) {
        if (random.nextInt(30) == 0) {
            return ODD_NUMBERS[random.nextInt(ODD_NUMBERS.length)];
        }
        switch (name + i) {
            case "letter0": return random.nextInt(300) - 20;
            case "streets2": case "length1": return random.nextInt(104) - 2;
            case "streets0": case "streets1": case "distance0": case "distance1": case "next0": case "next1":
            case "corner0": case "home0": case "matched0": case "balance0": return random.nextInt(16) == 0 ? 6 : random.nextInt(6);
            case "kind1": return random.nextInt(7);
            case "kind2": case "row0": return random.nextInt(12) - 1;
            case "time0": case "rank0": case "rank2": case "time1": case "rank1": case "rank3":
                return random.nextInt(3) == 0 ? random.nextInt() : random.nextInt(7) - 3;
            case "spliced0": case "step0": return random.nextInt(18) - 3;
            case "street1": return random.nextInt(9);
            case "round0": case "shared1": case "corner1": return random.nextInt(5);
            case "step1": return random.nextInt(6);
            case "shared0": case "dealt0": return random.nextInt(10) == 0 ? 5 * random.nextInt(2) : 1 + random.nextInt(3);
            case "loose0": case "lost2": case "whatIs1": case "lots2": return random.nextInt(10) == 0 ? 2 : random.nextInt(2);
            case "lost0": return random.nextInt(4) == 0 ? 9990 + random.nextInt(12) : random.nextInt(200);
            case "lost1": return 1 + random.nextInt(21);
            case "lots0": return random.nextInt(22);
            case "lots1": return random.nextInt();
            case "count0": return random.nextInt(19) - 1;
            default: return random.nextInt(9);
        }
    }

    private void call(String name, Object... numbers) throws Exception {
        Object[] ints = new Object[numbers.length];
        Class<?>[] types = new Class<?>[numbers.length];
        for (int i = 0; i < numbers.length; i++) {
            ints[i] = numbers[i] instanceof Character c ? (int) c : numbers[i];
            types[i] = int.class;
        }
        long got = ((Number) PostmanRounds.class.getMethod(name, types).invoke(rounds, ints)).longValue();
        long due = ((Number) PLAIN.get(name + Arrays.toString(types)).invoke(plain, ints)).longValue();
        told.append(name).append(Arrays.toString(ints)).append(" = ").append(got);
        if (got != due) {
            told.append(" but ").append(due).append(" is due");
            wrong++;
        }
        told.append('\n');
    }
}
