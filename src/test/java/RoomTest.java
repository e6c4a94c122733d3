import java.lang.reflect.Array;
import java.lang.reflect.Field;
import java.lang.reflect.Modifier;
import java.util.ArrayDeque;
import java.util.Collections;
import java.util.Deque;
import java.util.IdentityHashMap;
import java.util.Set;

/** All calls of a run live in one room: what a new object holds is little, and no call makes it more. */
public final class RoomTest {
    private static final Judge judge = new Judge();

    private final Set<Object> objects = Collections.newSetFromMap(new IdentityHashMap<>());
    private long cells;

    public static void main(String[] args) throws IllegalAccessException {
        OneChairShort x = new OneChairShort();
        RoomTest fresh = held(x);
        judge.due("objects and arrays of a new one, some hundred: " + fresh.objects.size(), fresh.objects.size() <= 200, true);
        judge.due("fields and elements of a new one, some thousand: " + fresh.cells, fresh.cells <= 12000, true);
        fill(x);
        dearCalls(x);
        RoomTest used = held(x);
        judge.due("objects and arrays after all calls", used.objects.size(), fresh.objects.size());
        judge.due("fields and elements after all calls", used.cells, fresh.cells);
        used.objects.removeAll(fresh.objects);
        judge.due("objects that a call put where another was", used.objects.size(), 0);
        judge.finish("RoomTest");
    }

    private static void fill(OneChairShort x) {
        judge.due("town()", Told.town(x, "r0;r1;r1;r1;10;20!;30;40;50;60;70;80"), 12);
        for (int person = 0; person < 8; person++) {
            judge.due("plan(" + person + ")", Told.plan(x, person, "012301230123012301230123"), 24);
        }
        judge.due("rule(0)", Told.rule(x, 0, "((((t*2-s)*3+b)/(c+9)-k)*g<i)+a-b*t/7+99"), 0);
        judge.due("rule(1)", Told.rule(x, 1, "----((((s*2-t)*3+a)/(c+9)-k)*g>i)+b-a/99"), 0);
    }

    private static void dearCalls(OneChairShort x) {
        for (int k = 0; k < 12; k++) {
            x.quarters(200);
            x.least(k % 8, 5);
            x.together(k % 8, (k + 1) % 8, 3);
            x.exchange(100);
            x.delay(k % 8, 100);
            x.feast(100);
            x.more(100);
            x.told(k % 8, k);
            x.stolen(100);
            x.even(200);
            x.round();
            x.both(0, 1);
            x.crowd(100);
            x.fewest();
            x.queue(k % 4);
            x.keep(k % 2);
            x.again(k % 2);
            judge.due("day()", Told.day(x, "q99;l0>1*99;l2>3*98;l4>5*97;l6>7*96;s0;w0;c0=8;c0=0;q99"), 10);
            x.settle();
        }
    }

    private static RoomTest held(Object root) throws IllegalAccessException {
        RoomTest all = new RoomTest();
        Deque<Object> left = new ArrayDeque<>();
        left.add(root);
        all.objects.add(root);
        while (!left.isEmpty()) {
            Object one = left.remove();
            if (one.getClass().isArray()) {
                all.elements(one, left);
            } else {
                all.fields(one, left);
            }
        }
        return all;
    }

    private void elements(Object array, Deque<Object> left) {
        cells += Array.getLength(array);
        if (!array.getClass().getComponentType().isPrimitive()) {
            for (int k = 0; k < Array.getLength(array); k++) {
                meet(Array.get(array, k), left);
            }
        }
    }

    private void fields(Object one, Deque<Object> left) throws IllegalAccessException {
        for (Field f : one.getClass().getDeclaredFields()) {
            if (!Modifier.isStatic(f.getModifiers())) {
                cells++;
                f.setAccessible(true);
                if (!f.getType().isPrimitive()) {
                    meet(f.get(one), left);
                }
            }
        }
    }

    private void meet(Object one, Deque<Object> left) {
        if (one != null && objects.add(one)) {
            left.add(one);
        }
    }
}
