import java.lang.management.ManagementFactory;

/** All calls of a run live in one room: after the first calls, nothing more is made, however dear the call. */
public final class RoomTest {
  private static final com.sun.management.ThreadMXBean MACHINE = (com.sun.management.ThreadMXBean) ManagementFactory.getThreadMXBean();

  private static long made() { return MACHINE.getThreadAllocatedBytes(Thread.currentThread().getId()); }

  private static String widest() {
    StringBuilder s = new StringBuilder();
    for (int k = 0; k < 12; k++) s.append("place ").append(k * 7 % 9).append(';');
    for (int k = 1; k < 12; k++) s.append("ditch 0 ").append(k).append(';');
    for (int k = 1; k < 6; k++) s.append("ditch ").append(k).append(' ').append(k + 1).append(';');
    for (int k = 0; k < 6; k++) s.append("person ").append(k + 1).append(' ').append(k).append(';');
    return s.append("claim 0 0 1;claim 1 1 2;").toString();
  }

  private static long dearCalls(BeliefRiver x) {
    long sum = 0;
    for (int k = 0; k < 40; k++) {
      sum += x.span(k, 20, 96, 8, k % 3, 0) + x.year(k, 96, 8, 1) + x.stays() + x.tellings(k % 6, 11, 1) + x.silence(11);
      sum += x.who(0) + x.look(1) + x.leaders(9, 0) + x.sight() + x.ahead(99, 0) + x.digs(0, 11) + x.meet(0, 5, 1);
      sum += x.undo() + x.told(6) + x.seen(12, 3, 0);
      Due.feed(x, "again 60[day;again 2[dig 0 1;];];tell 0 0 1;");
      sum += x.work(44);
      sum += x.image() + x.restore();
    }
    return sum;
  }

  public static void main(String[] args) {
    BeliefRiver x = new BeliefRiver();
    Due.is("land", Due.land(x, widest()), 12);
    Due.law(x, "fall + belief * 3 - doubt + (ran + day) % 7 - near");
    dearCalls(x);
    long before = made();
    long same = dearCalls(x);
    long bytes = made() - before;
    Due.is("the same again", dearCalls(x), same);
    // Two feeds a turn make a small row each, in the test; the calls themselves make nothing.
    Due.is("made by 640 calls: " + bytes + " bytes", bytes < 40000 ? 1 : 0, 1);
    before = made();
    new BeliefRiver();
    bytes = made() - before;
    Due.is("made by a new object: " + bytes + " bytes", bytes < 20000 ? 1 : 0, 1);
    System.out.println("a new object: " + bytes + " bytes");
    Due.end("RoomTest");
  }
}
