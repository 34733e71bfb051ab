import com.sun.management.ThreadMXBean;
import java.lang.management.ManagementFactory;
import java.lang.reflect.Method;
import java.lang.reflect.Modifier;
import java.util.ArrayList;
import java.util.Comparator;
import java.util.List;
import java.util.Random;

/** Any arguments in many states: no call throws, each ends, and none makes an object. */
public final class RoomTest {
    private static final int[] ODD = {
        0, 1, 2, 3, 4, 5, 7, 8, 9, 10, 11, 12, 13, 14, 15, 16, 22, 23, 24, 31, 32, 33, 40, 41, 60, 61, 64, 65, 99, 100, 255, 256,
        900, 1000, -1, -2, -3, -8, -31, -32, -33, Integer.MIN_VALUE, Integer.MAX_VALUE, 0xffff00, 0xffffff, 0x3ff00, 0x7ff00, 63, 126};

    public static void main(String[] args) throws Exception {
        List<Method> calls = new ArrayList<>();
        for (Method m : LargerWithin.class.getDeclaredMethods()) if (Modifier.isPublic(m.getModifiers())) calls.add(m);
        calls.sort(Comparator.comparing(Method::getName));
        Due.is("calls of the face", calls.size(), 41);
        for (int run = 0; run < 400; run++) strangeRun(calls, new Random(run));
        objects();
        Due.end("RoomTest");
    }

    private static String text(Random random) {
        StringBuilder text = new StringBuilder();
        int boxes = random.nextInt(9);
        int things = random.nextInt(17);
        for (int b = 0; b < boxes; b++) {
            text.append("box ").append(1 + random.nextInt(20)).append(" by 3 lid 4 times ").append(1 + random.nextInt(64))
                .append(" weight ").append(1 + random.nextInt(9)).append(" bears ").append(1 + random.nextInt(300)).append(';');
        }
        for (int t = 0; t < things; t++) {
            text.append("thing ").append(1 + random.nextInt(30)).append(" by 2 weight ").append(1 + random.nextInt(5)).append(" worth 3;");
        }
        return text.length() > 900 ? "" : text.toString();
    }

    private static int odd(Random random) {
        return random.nextInt(8) == 0 ? random.nextInt() : ODD[random.nextInt(ODD.length)];
    }

    private static void strangeRun(List<Method> calls, Random random) {
        LargerWithin x = Due.with(text(random));
        x.carriers(random.nextInt(), 60);
        for (int k = 0; k < 420; k++) {
            Method m = calls.get(random.nextInt(calls.size()));
            if (m.getName().equals("store") && random.nextInt(4) != 0) continue;
            Object[] given = new Object[m.getParameterCount()];
            for (int p = 0; p < given.length; p++) {
                Class<?> type = m.getParameterTypes()[p];
                if (type == boolean.class) given[p] = random.nextBoolean();
                else if (type == long.class) given[p] = random.nextBoolean() ? (Object) random.nextLong() : (Object) (long) odd(random);
                else given[p] = odd(random);
            }
            try {
                m.invoke(x, given);
            } catch (ReflectiveOperationException e) {
                Due.isTrue(m.getName() + java.util.Arrays.toString(given) + " threw " + e.getCause(), false);
            }
        }
    }

    /** The dearest calls, on a full store. */
    private static int dear(LargerWithin x) {
        int sum = 0;
        for (int what = 0; what < 3; what++) sum += x.household(0x3ff00, what == 1, what);
        sum += x.holds(0x3ff00, true, 17) + x.shut(0, 126) + x.shutIn(0, 126, 6) + x.even(0, 1, 0x3ff00, 0);
        sum += x.most(0, 0xffffff, 1) + x.nest(7) + x.chest(0, 0xffff00, 6, 6) + x.look(0, 0xffff00, 1, 1);
        sum += x.looks(0, 0xffff00, 1, 1) + x.sounded(0, 0xffff00, 6, 6) + x.carriers(7, 60) + x.perform(0);
        sum += x.judge(0, 1) + x.packing(0, 1) + x.how(0, 3) + x.lost(0) + x.voyage(1) + x.voyages(1, 10) + x.empty();
        return sum + x.copy(0) + x.image(0) + x.restore(0) + x.numbers(2, 3, 40) + (int) x.write(2, 3, 4);
    }

    private static LargerWithin full() {
        String text = Due.times("box 9 by 2 lid 2 times 64 weight 1 bears 99;", 8) + Due.times("thing 1 by 1 weight 1 worth 1;", 16);
        LargerWithin x = Due.with(text);
        x.numbers(0, 0, 24);
        x.copy(0);
        Due.row(x, 1, 0, 8, 9, 10, 11, 12);
        return x;
    }

    private static void objects() {
        ThreadMXBean threads = (ThreadMXBean) ManagementFactory.getThreadMXBean();
        LargerWithin x = full();
        String text = "thing 1 by 1 weight 1 worth 1;box 1 by 1 lid 1 times 1 weight 1 bears 1;";
        int sum = 0;
        for (int warm = 0; warm < 3; warm++) sum += dear(x);
        long id = Thread.currentThread().getId();
        threads.getThreadAllocatedBytes(id);
        long ahead = threads.getThreadAllocatedBytes(id);
        sum += dear(x);
        long behind = threads.getThreadAllocatedBytes(id);
        Due.is("bytes that the dearest calls make", behind - ahead, 0);
        Due.feed(x, text);
        ahead = threads.getThreadAllocatedBytes(id);
        sum += x.store(text.length());
        behind = threads.getThreadAllocatedBytes(id);
        Due.is("bytes that store() makes", behind - ahead, 0);
        ahead = threads.getThreadAllocatedBytes(id);
        LargerWithin fresh = new LargerWithin();
        behind = threads.getThreadAllocatedBytes(id);
        Due.isTrue("bytes of a new object: " + (behind - ahead), behind - ahead < 80_000);
        Due.isTrue("used", sum != fresh.count(0) + 1_000_000_000);
    }
}
