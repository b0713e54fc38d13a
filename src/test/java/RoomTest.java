import java.lang.management.ManagementFactory;
import java.lang.reflect.Array;
import java.lang.reflect.Field;
import java.lang.reflect.Modifier;
import java.util.ArrayDeque;
import java.util.Deque;
import java.util.IdentityHashMap;
import java.util.Map;

/** One run has some 600,000 objects and 7.3 million elements: what an object makes, and that its calls make nothing. */
public final class RoomTest {
    private static final int OBJECTS_MOST = 300;
    private static final int ELEMENTS_MOST = 25000;
    /** Far below one object for each call: what the machine itself may note. */
    private static final long BYTES_MOST = 1024;

    private int objects = 0;
    private int elements = 0;

    private RoomTest() {
    }

    public static void main(String[] args) throws IllegalAccessException {
        Due.by("An object is used for at most 512 calls after it has been made;");
        // the first calls of all bring the texts of the class into the room
        bytesOf512Calls(new BetterThieves());
        BetterThieves x = new BetterThieves();
        RoomTest made = new RoomTest();
        made.count(x);
        Due.is("objects of a new one: " + made.objects, made.objects <= OBJECTS_MOST, true);
        Due.is("elements of a new one: " + made.elements, made.elements <= ELEMENTS_MOST, true);
        long bytes = bytesOf512Calls(x);
        Due.is("bytes that 512 calls make: " + bytes, bytes <= BYTES_MOST, true);
        RoomTest used = new RoomTest();
        used.count(x);
        Due.is("objects of a used one", used.objects, made.objects);
        Due.is("elements of a used one", used.elements, made.elements);
        Due.finish();
    }

    private void count(Object root) throws IllegalAccessException {
        Map<Object, Object> seen = new IdentityHashMap<>();
        Deque<Object> open = new ArrayDeque<>();
        open.add(root);
        seen.put(root, root);
        while (!open.isEmpty()) {
            Object next = open.remove();
            objects++;
            if (next.getClass().isArray()) {
                countRow(next, open, seen);
            } else {
                countFields(next, open, seen);
            }
        }
    }

    private void countRow(Object row, Deque<Object> open, Map<Object, Object> seen) {
        int length = Array.getLength(row);
        elements += length;
        for (int i = 0; i < length && !row.getClass().getComponentType().isPrimitive(); i++) {
            note(Array.get(row, i), open, seen);
        }
    }

    private void countFields(Object object, Deque<Object> open, Map<Object, Object> seen)
            throws IllegalAccessException {
        for (Field field : object.getClass().getDeclaredFields()) {
            if (!Modifier.isStatic(field.getModifiers())) {
                elements++;
                field.setAccessible(true);
                if (!field.getType().isPrimitive()) {
                    note(field.get(object), open, seen);
                }
            }
        }
    }

    private static void note(Object part, Deque<Object> open, Map<Object, Object> seen) {
        if (part != null && seen.put(part, part) == null) {
            open.add(part);
        }
    }

    private static long bytesOf512Calls(BetterThieves x) {
        Due.feed(x, "night 4;kind a;kind b;thing c of a weight 1 worth 9;thing d of b weight 1 worth 8;"
                + "thing e of a weight 1 worth 7;thing f of b weight 1 worth 6;thing g of a weight 1 worth 5;"
                + "house h lock 1 watch 1 has c has d;house i lock 2 has e;"
                + "thief p sack 9 skill 1 has f has g;thief q sack 9 skill 2;dear g to h 20;law left + alike > 2;");
        long before = bytes();
        int things = x.city();
        int answers = 0;
        for (int i = 0; i < 14; i++) {
            answers += oneOfEach(x, i);
        }
        long after = bytes();
        Due.is("THINGS", things, 5);
        Due.is("the calls answered", answers != 0, true);
        return after - before;
    }

    /** Some 35 calls. */
    private static int oneOfEach(BetterThieves x, int i) {
        int sum = x.image(i % 3) + x.thing(i % 5, 3) + x.worth(1, 0, false) + x.has(0, true) + x.sum(0, false)
                + x.thief(0, 2) + x.minutes(0, 0, 2) + x.may(0, 0, 1, 8, 0) + x.swaps(0) + x.best(0) + x.lies(0)
                + x.theft(0, i % 2, 1 << x.lies(1), x.lies(2)) + x.tour(0, i % 5) + x.tour(1, i % 5);
        sum += x.drift(0, 60) + x.sums(1, false, 9) + x.rests() + x.lie(0, 4, 1) + x.unbettered(0) + x.loopholes()
                + x.who(i % 3) + x.report(0, 0, 3, 1, i % 2 == 0) + x.later(1) + x.span(0, 0, 0, i) + x.ask(0, 0, 0, i)
                + x.waits() + x.about(9) + x.fault(0);
        boolean done = x.gift(i % 5, 1, true) | x.undo() | x.redo() | x.untell(i);
        return sum + (done ? 1 : 0);
    }

    /** 0 if this machine does not count them. */
    private static long bytes() {
        if (ManagementFactory.getThreadMXBean() instanceof com.sun.management.ThreadMXBean counter
                && counter.isThreadAllocatedMemoryEnabled()) {
            return counter.getThreadAllocatedBytes(Thread.currentThread().getId());
        }
        return 0;
    }
}
