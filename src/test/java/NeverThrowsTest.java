import com.sun.management.ThreadMXBean;
import java.lang.management.ManagementFactory;
import java.lang.reflect.InvocationTargetException;
import java.lang.reflect.Method;
import java.lang.reflect.Modifier;
import java.util.ArrayList;
import java.util.Arrays;
import java.util.Comparator;
import java.util.List;
import java.util.Random;

/** Runs of calls with any numbers: no call may throw, and none may make objects. */
public final class NeverThrowsTest {
    private static final int[] NUMBERS = {Integer.MIN_VALUE, Integer.MIN_VALUE + 1, -100001, -1000, -97, -10, -9, -8, -7, -6, -5,
        -4, -3, -2, -1, 0, 1, 2, 3, 4, 5, 6, 7, 8, 9, 10, 20, 21, 31, 32, 33, 59, 63, 64, 95, 96, 97, 98, 99, 100, 107, 115, 120,
        255, 256, 9999, 10000, Integer.MAX_VALUE - 1, Integer.MAX_VALUE};

    public static void main(String[] args) throws Exception {
        List<Method> face = new ArrayList<>();
        for (Method m : PostmanRounds.class.getDeclaredMethods()) {
            if (Modifier.isPublic(m.getModifiers())) {
                face.add(m);
            }
        }
        face.sort(Comparator.comparing(Method::getName));
        for (long seed = 0; seed < 60; seed++) {
            run(face, new Random(seed));
        }
        makesNothing();
        System.out.println("nothing was thrown, nothing was made");
    }

    private static void run(List<Method> face, Random random) throws Exception {
        PostmanRounds x = new PostmanRounds();
        boolean isWild = random.nextBoolean();
        // Beyond its 512th call the answers are free, but a call must still end.
        for (int i = 0; i < 700; i++) {
            Method m = face.get(random.nextInt(face.size()));
            Object[] numbers = new Object[m.getParameterCount()];
            for (int k = 0; k < numbers.length; k++) {
                numbers[k] = isWild || random.nextInt(6) == 0 ? NUMBERS[random.nextInt(NUMBERS.length)] : random.nextInt(8);
            }
            try {
                m.invoke(x, numbers);
            } catch (InvocationTargetException e) {
                System.out.println(m.getName() + Arrays.toString(numbers) + " threw " + e.getCause());
                System.exit(1);
            }
        }
    }

    private static void makesNothing() {
        ThreadMXBean bean = (ThreadMXBean) ManagementFactory.getThreadMXBean();
        PostmanRounds x = new PostmanRounds();
        everyCall(x);
        long before = bean.getThreadAllocatedBytes(Thread.currentThread().getId());
        for (int i = 0; i < 50; i++) {
            everyCall(x);
        }
        long made = bean.getThreadAllocatedBytes(Thread.currentThread().getId()) - before;
        // The bean itself may make a little; one row in each of some 4000 calls would be far more.
        if (made > 4000) {
            System.out.println(made + " bytes were made by calls");
            System.exit(1);
        }
    }

    private static void everyCall(PostmanRounds x) {
        String map = "sab05;sbc07;sca03;scd20;k324;x2;x2;l105;ha;";
        for (int i = 0; i < map.length(); i++) {
            x.letter(map.charAt(i));
        }
        x.map();
        x.streets(0, 1, 4);
        x.turns(0);
        x.turns(0);
        x.length(0, 5);
        x.kind(0, 1, 2);
        x.home(0);
        x.street(0, 6);
        x.corner(0, 2);
        x.distance(0, 3);
        x.next(0, 3);
        x.round(0);
        x.step(0, 3);
        x.time(3, 7);
        x.rank(1, 2, 3, 4);
        x.mean();
        x.odd();
        x.matched(0);
        x.matching();
        x.spliced(3);
        x.balance(0);
        x.flow();
        x.loose(1);
        x.without(0);
        x.turned(0);
        x.worst();
        x.shared(3, 0);
        x.dealt(3, 0);
        x.lost(50, 5, 0);
        x.row(0);
        x.whatIs(0, 0);
        x.judge();
        x.clear();
        x.lots(5, 7, 1);
        x.image();
        x.on();
        x.count(0);
    }
}
