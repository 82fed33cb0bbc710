import com.sun.management.ThreadMXBean;
import java.lang.management.ManagementFactory;

/**
 * What the dearest runs of calls that we know make: one room holds some 7,300,000 fields and elements, of
 * everything that is ever made in a run of calls. A field or element has 8 bytes at most.
 */
public final class RoomTest {
  private static final long MOST_BYTES = 8L * 1000000;

  /** Null where the machine does not count what is made. */
  private static final ThreadMXBean BEAN = ManagementFactory.getThreadMXBean() instanceof ThreadMXBean bean ? bean : null;

  private final DurableLoom loom;
  private final String name;
  private final long before;
  private int calls = 1;

  private RoomTest(String name) {
    this.name = name;
    this.before = made();
    this.loom = new DurableLoom();
  }

  public static void main(String[] args) {
    new RoomTest("the first object").end();
    setBackOfManyEvents();
    setBackOfManyCompensations(Check.COMP, 0, 2);
    setBackOfManyCompensations(Check.TRY, 6, 0);
    signalsThatComeAgain(Check.TAG, 2, 0, 51);
    signalsThatComeAgain(Check.COMP, 0, 2, 0);
    signalsThatComeAgain(Check.TRY, 2, 0, 0);
    signalsThatAreLost();
    branchesThatAreDropped();
    manyFailures(Check.TAG, 2, 0);
    manyFailures(Check.COMP, 0, 2);
    manyFailures(Check.TRY, 7, 0);
    manyRuns();
    Check.end();
  }

  private static long made() {
    return BEAN == null ? 0 : BEAN.getThreadAllocatedBytes(Thread.currentThread().getId());
  }

  private void end() {
    long bytes = made() - before;
    Check.due(name + ": the calls, " + calls + ", are 512 at most", calls <= 512, true);
    Check.due(name + ": " + bytes + " bytes are no more than allowed", bytes <= MOST_BYTES, true);
  }

  private void line(int command, int a, int b) {
    loom.line(0, command, a, b);
    calls++;
  }

  private void lines(int many, int command, int a, int b) {
    for (int i = 0; i < many; i++) {
      line(command, a, b);
    }
  }

  private void begin(int input) {
    loom.deploy(0);
    loom.setRate(10);
    loom.begin(0, 0, input);
    calls += 3;
  }

  /** A task of the only run that has work; returns what complete returns, or -9. */
  private int work(int worker) {
    int task = loom.poll(worker);
    calls++;
    if (task < 0) {
      loom.pass(1);
      task = loom.poll(worker);
      calls += 2;
    }
    if (task >= 0) {
      calls++;
      return loom.complete(task / 100);
    }
    return -9;
  }

  private int setBack(int run, int task) {
    calls++;
    return loom.setBack(run, task);
  }

  /** Twelve branches that do a line 15 times and once more, until they have done it 45 times for an arrival. */
  private void twelveBranches(int command, int a, int b) {
    line(Check.SET, 1, 1);
    line(Check.ZERO, 0, 4);
    line(Check.ADD, 0, 1);
    line(Check.PAR, 1, 0);
    line(Check.TIMER, 1, 0);
    line(Check.SET, 2, 997);
    lines(15, command, a, b);
    line(Check.ADD, 2, 1);
    line(Check.ZERO, 2, 4);
    line(Check.GOTO, 6, 0);
  }

  private static void setBackOfManyEvents() {
    RoomTest of = new RoomTest("set back, many events");
    of.twelveBranches(Check.TAG, 2, 0);
    of.begin(989);
    of.work(0);
    for (int i = 1; i <= 116; i++) {
      of.loom.pass(1);
      of.calls++;
      of.work(0);
    }
    int last = 0;
    for (int run = 0; run < 29; run++) {
      last = of.setBack(run, 116);
    }
    of.end();
    Check.due("the last run", last, 29);
    Check.due("its events", of.loom.standing(29), 655540);
    Check.due("the first run's", of.loom.standing(0), 655545);
    Check.due("the last event", of.loom.event(29, 65553), 17000000 + 1393 * 1000);
    Check.due("the last of the first run", of.loom.event(0, 65553), 17000000 + 1393 * 1000);
    Check.due("an event in the middle", of.loom.event(29, 30000), of.loom.event(0, 30000));
    for (int i = 1; i <= 90; i++) {
      Check.due("tags that are left", of.loom.bringIn(100), 116 * 12 * 45 - 100 * i);
      for (int tag = 997; tag <= 999 && i % 30 == 0; tag++) {
        Check.due("the last one that is known", of.loom.search(tag), tag == 997 + (100 * i - 1) / 15 % 3 ? 1 : 0);
      }
    }
  }

  private static void setBackOfManyCompensations(int command, int a, int b) {
    RoomTest of = new RoomTest("set back, many of the command " + command);
    of.twelveBranches(command, a, b);
    of.begin(989);
    of.work(0);
    for (int i = 1; i <= 61; i++) {
      of.loom.pass(1);
      of.calls++;
      of.work(0);
    }
    for (int run = 0; run < 29; run++) {
      of.setBack(run, 61 + 3 * run);
      for (int worker = 0; worker < 3; worker++) {
        of.loom.pass(1);
        of.calls++;
        Check.due("each branch goes on", of.work(worker), 12);
      }
    }
    of.end();
    Check.due("replays", of.loom.replays(2), 29);
  }

  /** More signals than a history takes by calls: those that were lost for some time come behind others. */
  private void manySignals(int many, int value) {
    boolean isParted = false;
    for (int sent = 0; sent < many; sent += 98) {
      for (int i = sent; i < many && i < sent + 98; i++) {
        loom.signal(0, 0, value);
        calls++;
      }
      if (isParted) {
        loom.join();
        calls++;
      }
      isParted = sent + 98 < many;
      if (isParted) {
        loom.takeOver();
        calls++;
      }
    }
  }

  private void wokenBySignals(int command, int a, int b) {
    line(Check.SET, 1, 1);
    line(Check.WAIT, 0, 2);
    lines(17, command, a, b);
    line(Check.ADD, 2, 1);
    line(Check.ZERO, 2, 1);
    line(Check.GOTO, 2, 0);
  }

  private static void signalsThatComeAgain(int command, int a, int b, int tags) {
    RoomTest of = new RoomTest("signals that come again, command " + command);
    of.wokenBySignals(command, a, b);
    of.begin(0);
    of.work(0);
    of.loom.copy(0, 2);
    of.calls++;
    of.manySignals(375, 997);
    Check.due("each signal does its lines", of.work(0), 375 * tags);
    for (int run = 0; run < 29; run++) {
      of.setBack(run, 0);
      Check.due("and once more", of.work(0), 375 * tags);
    }
    of.end();
    Check.due("all runs", of.loom.runs(), 30);
    Check.due("the last one's events", of.loom.standing(29) / 10, 3 + 375 * (tags + 1));
    Check.due("the first one's", of.loom.standing(0) / 10, 3 + 375 * (tags + 1));
    Check.due("tags that are left", of.loom.bringIn(1), Math.max(0, 30 * 375 * tags - 1));
  }

  private static void signalsThatAreLost() {
    RoomTest of = new RoomTest("signals that are lost");
    of.wokenBySignals(Check.TAG, 2, 0);
    of.begin(0);
    of.work(0);
    of.loom.copy(0, 2);
    of.calls++;
    of.manySignals(240, 997);
    for (int i = 0; i < 55; i++) {
      Check.due("each signal does its lines", of.work(0), 240 * 51);
      Check.due("they are lost", of.loom.takeOver(), 240 * 52 + 1);
      Check.due("they come again", of.loom.join(), 240);
      of.calls += 2;
    }
    of.end();
    Check.due("tags that are left", of.loom.bringIn(100), 55 * 240 * 51 - 100);
  }

  /** Twelve branches, ten of which begin children that cannot be, are dropped twice for each signal. */
  private static void branchesThatAreDropped() {
    RoomTest of = new RoomTest("branches that are dropped");
    of.line(Check.SET, 1, 1);
    of.line(Check.WAIT, 0, 2);
    of.line(Check.RACE, 4, 0);
    of.line(Check.CHILD, 3, 0);
    of.line(Check.PAR, 10, 0);
    of.line(Check.JOIN, 0, 0);
    of.line(Check.WIN, 0, 0);
    of.line(Check.ADD, 2, 1);
    of.line(Check.ZERO, 2, 1);
    of.line(Check.GOTO, 2, 0);
    of.lines(8, Check.PAR, 22, 0);
    of.line(Check.RACE, 20, 0);
    of.line(Check.CHILD, 3, 0);
    of.line(Check.WIN, 0, 0);
    of.line(Check.END, 0, 0);
    of.line(Check.CHILD, 3, 0);
    of.begin(0);
    of.work(0);
    of.loom.copy(0, 2);
    of.calls++;
    of.manySignals(374, 998);
    Check.due("each signal does its lines", of.work(0), 374 * 40);
    for (int run = 0; run < 29; run++) {
      of.setBack(run, 0);
      Check.due("and once more", of.work(0), 374 * 40);
    }
    of.end();
    Check.due("the last one's events", of.loom.standing(29) / 10, 3 + 374 * 61);
  }

  /** Twelve branches with a child of a type without code: each fails at once, and its handler goes on. */
  private static void manyFailures(int command, int a, int b) {
    RoomTest of = new RoomTest("many failures, command " + command);
    of.line(Check.SET, 1, 1);
    of.line(Check.ZERO, 0, 4);
    of.line(Check.ADD, 0, 1);
    of.line(Check.PAR, 1, 0);
    of.line(Check.TRY, 6, 0);
    of.line(Check.CHILD, 3, 3);
    of.line(Check.SET, 2, 997);
    of.lines(14, command, a, b);
    of.line(Check.ADD, 2, 1);
    of.line(Check.ZERO, 2, 4);
    of.line(Check.GOTO, 7, 0);
    of.begin(989);
    int least = command == Check.TAG ? 12 * 43 : 12;
    Check.due("twelve children", of.work(0), 12);
    while (of.calls <= 508) {
      Check.due("each branch goes on", of.work(0), least);
    }
    of.end();
  }

  /** Thirty runs, all with tasks, branches and activities, of which workers forget what they kept. */
  private static void manyRuns() {
    RoomTest of = new RoomTest("many runs");
    of.twelveBranches(Check.ACT, 0, 2);
    of.begin(989);
    for (int run = 1; run < 30; run++) {
      of.loom.begin(0, run % 3, 989);
      of.calls++;
    }
    for (int i = 0; of.calls <= 506; i++) {
      of.work(i % 3);
    }
    of.end();
    Check.due("all runs", of.loom.runs(), 30);
  }
}
