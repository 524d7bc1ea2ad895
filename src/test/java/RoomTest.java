import java.lang.management.ManagementFactory;

/** Rule 12 and the one room of a run: calls make nothing, and a new object stays small. */
final class RoomTest {
  private static final int OBJECT_BYTES_MOST = 40_000;
  private static final int CALLS_BYTES_MOST = 4_000;

  public static void main(String[] args) {
    com.sun.management.ThreadMXBean threads = (com.sun.management.ThreadMXBean) ManagementFactory.getThreadMXBean();
    long id = Thread.currentThread().getId();
    PhraseMoods x = crowded();
    callAll(x, 0);
    threads.getThreadAllocatedBytes(id);
    long before = threads.getThreadAllocatedBytes(id);
    PhraseMoods y = new PhraseMoods();
    long made = threads.getThreadAllocatedBytes(id) - before;
    Due.due("a new object takes " + made + " bytes, too many", made > OBJECT_BYTES_MOST ? 1 : 0, 0);
    y.image();
    before = threads.getThreadAllocatedBytes(id);
    int sum = 0;
    for (int i = 0; i < 20; i++) {
      sum += callAll(x, i);
    }
    long called = threads.getThreadAllocatedBytes(id) - before;
    Due.due("some 500 calls take " + called + " bytes, too many", called > CALLS_BYTES_MOST ? 1 : 0, 0);
    Due.due("they answer", sum != 0 ? 1 : 0, 1);
    Due.end();
  }

  /** As many words, frames and readings as there can be. */
  private static PhraseMoods crowded() {
    PhraseMoods x = new PhraseMoods();
    for (int i = 0; i < 20; i++) {
      Due.word(x, "a", i < 3 ? 1 : i < 5 ? 3 : i < 8 ? 4 : i == 8 ? 0 : 2, 0, i % 3);
    }
    for (int i = 0; i < 5; i++) {
      Due.frame(x, i % 2 == 0 ? "n00v0v0v0v0v0" : "n00 f11 n10 v1 p8 v0");
    }
    Due.text(x, "a a a a a a");
    x.desk(0, 1);
    return x;
  }

  private static int callAll(PhraseMoods x, int i) {
    int sum = x.feed(2, 97, 97, 0, 0, 0) + x.word(0, 0, 0) + x.feed(1, 97, 0, 0, 0, 0) + x.ending(1, 0, 0);
    sum += x.feed(3, 112, 56, 112, 0, 0) + x.frame() + x.told(i, 0) + x.taken(i, 0) + x.form(i, 95, -1) + x.hole(1, 1, 4);
    sum += x.desk(i % 5, 1) + x.choose(0, 1) + x.number(0, 1) + x.said(-1) + x.spoken(9) + x.readings(0) + x.near(0);
    sum += x.drawn(i, 0) + x.chance(i, 8, 0) + x.tray(0, 0, 20) + x.lays(0, 0, i) + x.laid(0, 0) + x.like(1, 0);
    sum += x.sheet(0, 1, 6) + x.put(0, 0, 1) + x.copy(0, 0, 0, 1, 5) + x.tells(0, 1) + x.tells(0, 2) + x.image() + x.back();
    return sum + x.count(3);
  }
}
