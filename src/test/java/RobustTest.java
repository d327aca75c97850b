import java.lang.management.ManagementFactory;
import java.lang.reflect.Array;
import java.lang.reflect.Field;
import java.lang.reflect.Method;
import java.lang.reflect.Modifier;
import java.util.ArrayDeque;
import java.util.IdentityHashMap;
import java.util.Random;

/** No call throws for any arguments in any state, and none makes objects; a new roll is small. */
public final class RobustTest {
    private static final int[] ODD_NUMBERS = {0, 1, -1, 2, -2, 3, 5, 7, 19, 20, 49, 60, 61, 100, 119, 120, 199, 200, 365, 400,
        999, 1000, 1001, 9999, 10000, 39999, 40000, 40001, Integer.MAX_VALUE, Integer.MIN_VALUE, Integer.MAX_VALUE - 1,
        0x61626364, 0x20202020, 0x612c6220, 0x613e622c};

    public static void main(String[] args) throws Exception {
        anyArguments();
        fullRoll();
        sizeOfANewRoll();
        Desk.finish();
    }

    private static int any(Random random) {
        int pick = random.nextInt(10);
        if (pick < 6) {
            return ODD_NUMBERS[random.nextInt(ODD_NUMBERS.length)];
        }
        return pick < 9 ? random.nextInt(130) : random.nextInt();
    }

    private static void anyArguments() throws Exception {
        Method[] methods = VoteRoll.class.getDeclaredMethods();
        Random random = new Random(5);
        int thrown = 0;
        for (int run = 0; run < 150; run++) {
            Desk desk = new Desk();
            if (run % 2 == 0) {
                fill(desk, random, 3 + run % 60, 3 + run);
            }
            for (int call = 0; call < 300; call++) {
                Method method = methods[random.nextInt(methods.length)];
                if (!Modifier.isPublic(method.getModifiers())) {
                    continue;
                }
                Object[] given = new Object[method.getParameterCount()];
                for (int i = 0; i < given.length; i++) {
                    given[i] = any(random);
                }
                try {
                    method.invoke(desk.roll, given);
                } catch (java.lang.reflect.InvocationTargetException e) {
                    thrown++;
                    System.out.println(method.getName() + java.util.Arrays.toString(given) + " threw " + e.getCause());
                }
            }
        }
        Desk.due("calls that threw", thrown, 0);
    }

    private static void fill(Desk desk, Random random, int records, int acts) {
        desk.law("age 20; notice 1 days 3; nodoor 7; strike if silent 20 and not (dead or ward 3) or moved and not away");
        desk.folds("a>bcd,bb>,ph>f");
        for (int i = 0; i < records; i++) {
            String names = "a".repeat(random.nextInt(13)) + "," + (char) ('a' + random.nextInt(3));
            desk.record(names, random.nextInt(8), random.nextInt(7), random.nextInt(30), random.nextInt(1000),
                    random.nextInt(5), random.nextInt(200), random.nextInt(200));
        }
        for (int i = 0; i < acts; i++) {
            desk.roll.act(random.nextInt(records), random.nextInt(6), random.nextInt(200), random.nextInt(200));
        }
        for (int i = 0; i < 16; i++) {
            desk.roll.wish(random.nextInt(records));
        }
        desk.roll.terms(3, 1, 2, 1, 1, 5);
    }

    /** A roll that is full, asked for all that is dear; what its calls make is looked at. */
    private static void fullRoll() {
        Desk desk = new Desk();
        fill(desk, new Random(3), 120, 200);
        Desk.due("RECORDS of a full roll", desk.roll.count(0), 120);
        Desk.due("ACTS of a full roll", desk.roll.count(4), 200);
        askAll(desk.roll);
        com.sun.management.ThreadMXBean bean = (com.sun.management.ThreadMXBean) ManagementFactory.getThreadMXBean();
        long self = Thread.currentThread().getId();
        bean.getThreadAllocatedBytes(self);
        long before = bean.getThreadAllocatedBytes(self);
        askAll(desk.roll);
        long made = bean.getThreadAllocatedBytes(self) - before;
        Desk.due("kilobytes made by calls", made / 1024, 0);
    }

    private static void askAll(VoteRoll roll) {
        for (int i = 0; i < 20; i++) {
            roll.terms(i % 4, 1, 1 + i, 1, 1, i);
            roll.person(i, 200);
            roll.joined(150, 1);
            roll.odds(0, i + 1, 2);
            roll.ward(-1, 200, 200, 2);
            roll.tried(200, 190, 0);
            roll.plan(100 * i, 200, 200);
            roll.caseOf(i, 200, 200);
            roll.lacks(i, 200);
            roll.line(i, 200, 200);
            roll.of(i, 200, 200, 1);
            roll.led(i, 200, 200, 1);
            roll.doors(i, 60, 30, 15);
            roll.missing(i, 0);
            roll.missing(i, 1);
            roll.luck(30, 15, 30, 15, 0);
            roll.feed(0x61676520, 0x31202020, 0x3b737472, 0x696b6520, 0x69662064);
            roll.law();
            roll.feed(0x61676520, 0x31202020, 0x20202020, 0x20202020, 0x20202020);
            roll.law();
            roll.feed(0x613e6220, 0x2c633e64, 0x20202020, 0x20202020, 0x20202020);
            roll.folds();
        }
    }

    /** Objects and arrays of a new roll, and their fields and elements: the room of a run is shared by all. */
    private static void sizeOfANewRoll() throws Exception {
        IdentityHashMap<Object, Boolean> seen = new IdentityHashMap<>();
        ArrayDeque<Object> open = new ArrayDeque<>();
        VoteRoll roll = new VoteRoll();
        seen.put(roll, true);
        open.add(roll);
        long parts = 0;
        while (!open.isEmpty()) {
            Object one = open.poll();
            if (one.getClass().isArray()) {
                parts += Array.getLength(one);
                continue;
            }
            for (Field field : one.getClass().getDeclaredFields()) {
                if (Modifier.isStatic(field.getModifiers())) {
                    continue;
                }
                parts++;
                field.setAccessible(true);
                Object held = field.get(one);
                if (!field.getType().isPrimitive() && held != null && seen.put(held, true) == null) {
                    open.add(held);
                }
            }
        }
        System.out.println("a new roll: " + seen.size() + " objects and arrays, " + parts + " fields and elements");
        Desk.due("few objects", seen.size() <= 100 ? 1 : 0, 1);
        Desk.due("few fields and elements", parts <= 10000 ? 1 : 0, 1);
    }
}
