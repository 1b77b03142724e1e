import com.sun.management.ThreadMXBean;
import java.lang.management.ManagementFactory;
import java.lang.reflect.Array;
import java.lang.reflect.Field;
import java.lang.reflect.Modifier;
import java.util.ArrayList;
import java.util.Collections;
import java.util.IdentityHashMap;
import java.util.List;
import java.util.Set;

// All calls of a run live in one room: an object is small, and its calls make nothing new.
public final class RoomTest {
  private static final int MOST_OBJECTS = 60;
  private static final int MOST_ELEMENTS = 6000;
  private static int wrong = 0;

  private static void hold(boolean holds, String what) {
    if (!holds) {
      wrong++;
      System.out.println("does not hold: " + what);
    }
  }

  public static void main(String[] args) throws Exception {
    CubeDesk desk = new CubeDesk();
    long[] fresh = roomOf(desk);
    hold(fresh[0] <= MOST_OBJECTS && fresh[1] <= MOST_ELEMENTS, fresh[0] + " objects, " + fresh[1] + " fields and elements");
    // Once before the counting, since the machine itself makes things where code runs for the first time.
    useAll(new CubeDesk());
    ThreadMXBean counter = (ThreadMXBean) ManagementFactory.getThreadMXBean();
    counter.getCurrentThreadAllocatedBytes();
    long before = counter.getCurrentThreadAllocatedBytes();
    long between = counter.getCurrentThreadAllocatedBytes();
    useAll(desk);
    long made = counter.getCurrentThreadAllocatedBytes() - between - (between - before);
    // A little slack for the machine's own doings: an object made by every call would be far above it.
    hold(made <= 1024, "the calls made " + made + " bytes of objects");
    long[] used = roomOf(desk);
    hold(used[0] == fresh[0] && used[1] == fresh[1], used[0] + " objects, " + used[1] + " fields and elements after use");
    System.out.println(fresh[0] + " objects, " + fresh[1] + " fields and elements; " + made + " bytes made by calls");
    if (wrong != 0) System.exit(1);
  }

  /** Each call, in the widest space that all of them allow. */
  private static void useAll(CubeDesk x) {
    for (int d = 0; d < 3; d++) {
      x.dimension(8);
      x.level(d, 8);
      x.level(d, 8);
      for (int m = 0; m < 8; m++) x.parent(d, 0, m, m / 2);
    }
    for (int n = 0; n < 300; n++) {
      for (int d = 0; d < 3; d++) x.pick(d, n * (d + 3) % 8);
      x.fact(n);
      if (n % 5 == 0) x.drop(n);
    }
    for (int c = 0; c < x.cuboids(); c++) {
      x.keep(c, c % 3 == 0);
      x.gain(c);
      x.ask(c, c % 4);
      x.group(c, c);
      x.serves(c, 5);
      x.levelOf(c, 1);
      x.kept(c);
      x.cost(c);
      x.server(c);
      x.size(c);
    }
    x.best(3);
    x.choose(8);
    x.filter(1, 1, 2);
    for (int v = 0; v < 4; v++) {
      x.total(v);
      x.table(0, 10, v);
    }
    for (int i = -1; i < 7; i++) {
      x.out(i);
      x.count(i);
      x.lies(0, i, 1);
      x.members(0, i);
    }
    x.read();
  }

  private static long[] roomOf(Object root) throws Exception {
    Set<Object> seen = Collections.newSetFromMap(new IdentityHashMap<>());
    List<Object> open = new ArrayList<>(List.of(root));
    seen.add(root);
    long[] room = {0, 0};
    while (!open.isEmpty()) {
      Object one = open.remove(open.size() - 1);
      room[0]++;
      for (Object part : partsOf(one, room)) if (part != null && seen.add(part)) open.add(part);
    }
    return room;
  }

  private static List<Object> partsOf(Object one, long[] room) throws Exception {
    List<Object> parts = new ArrayList<>();
    if (one.getClass().isArray()) {
      room[1] += Array.getLength(one);
      if (!one.getClass().getComponentType().isPrimitive())
        for (int i = 0; i < Array.getLength(one); i++) parts.add(Array.get(one, i));
      return parts;
    }
    for (Field f : one.getClass().getDeclaredFields()) {
      if (Modifier.isStatic(f.getModifiers())) continue;
      room[1]++;
      f.setAccessible(true);
      if (!f.getType().isPrimitive()) parts.add(f.get(one));
    }
    return parts;
  }
}
