/**
 * Many runs of 512 calls with numbers from a fixed row: no call throws what the document does not name,
 * a call that throws changes nothing, workers that forget come to the same as those that keep states,
 * an engine that is asked much in between answers as one that is not, and histories keep to their form.
 */
public final class RandomCallsTest {
  private static final int CALLS = 512;

  private long seed;
  private DurableLoom loom;
  private DurableLoom twin;
  private boolean forgetful;
  private boolean asked;

  public static void main(String[] args) {
    for (int i = 0; i < 150; i++) {
      new RandomCallsTest().play(i, false, false);
      new RandomCallsTest().play(i, true, false);
      new RandomCallsTest().play(i, false, true);
    }
    Check.end();
  }

  private int next(int below) {
    seed = seed * 6364136223846793005L + 1442695040888963407L;
    return (int) ((seed >>> 33) % below);
  }

  /** A number that is mostly below a bound, and sometimes far from that. */
  private int some(int below) {
    int way = next(40);
    if (way == 0) {
      return -1;
    }
    if (way == 1) {
      return below;
    }
    if (way == 2) {
      return next(2) == 0 ? Integer.MAX_VALUE : Integer.MIN_VALUE;
    }
    return next(Math.max(1, below));
  }

  private void play(int number, boolean isForgetful, boolean isAsked) {
    seed = 77777 + number;
    forgetful = isForgetful;
    asked = isAsked;
    loom = new DurableLoom();
    twin = new DurableLoom();
    for (int type = 0; type < 3; type++) {
      writeCode(type);
    }
    for (int i = 0; i < CALLS; i++) {
      int call = next(40);
      int a = some(call == 0 ? 4 : 8);
      int b = some(4);
      int c = some(1000);
      same(call, a, b, c);
    }
    for (int run = 0; run < loom.runs(); run++) {
      lookAt(run);
    }
    Check.due("the twin of " + number, face(twin), face(loom));
    for (int worker = 0; worker < 3 && !forgetful; worker++) {
      Check.due("replays", twin.replays(worker), loom.replays(worker));
    }
  }

  private String face(DurableLoom of) {
    StringBuilder text = new StringBuilder();
    for (int run = 0; run < of.runs(); run++) {
      text.append(of.standing(run)).append(' ').append(Check.history(of, run)).append('\n');
    }
    return text.toString();
  }

  private void writeCode(int type) {
    int many = 4 + next(16);
    for (int i = 0; i < many; i++) {
      // A worker that forgets can see other patches than one that does not.
      int command = next(24);
      if ((command == Check.PATCH && !asked) || (command == Check.GOTO && next(3) > 0)) {
        command = Check.WAIT;
      }
      int least = command == Check.TIMER ? 1 : 0;
      int a = command == Check.TIMER ? 1 + next(5) : next(24);
      int b = next(6);
      while (Check.thrown(new Line(type, command, a, b)) != null) {
        if (b > 0) {
          b = 0;
        } else {
          a = Math.max(least, a - 1);
        }
      }
      twin.line(type, command, a, b);
    }
    Check.due("deploy", loom.deploy(type), twin.deploy(type));
  }

  private final class Line implements Runnable {
    private final int type;
    private final int command;
    private final int a;
    private final int b;

    Line(int type, int command, int a, int b) {
      this.type = type;
      this.command = command;
      this.a = a;
      this.b = b;
    }

    @Override
    public void run() {
      loom.line(type, command, a, b);
    }
  }

  /**
   * The twin answers the same, though it is not asked what throws, and though, if it forgets, all its
   * workers die ahead of each call. (Then all tasks are completed at once: they would be over by that.)
   */
  private void same(int call, int a, int b, int c) {
    String what = "call " + call + "(" + a + ", " + b + ", " + c + ")";
    if (forgetful && (call == 17 || call == 18)) {
      return;
    }
    String first = answer(loom, call, a, b, c);
    if (first.startsWith("throws")) {
      return;
    }
    for (int worker = 0; worker < 3 && forgetful; worker++) {
      Check.due("tasks that are not over", twin.die(worker), 0);
    }
    for (int run = 0; run < twin.runs() && asked; run++) {
      int of = run;
      Check.thrown(() -> twin.query(of, 0));
    }
    Check.due(what + " of the twin", answer(twin, call, a, b, c), first);
  }

  private String answer(DurableLoom of, int call, int a, int b, int c) {
    try {
      return "" + (call < 20 ? early(of, call, a, b, c) : late(of, call, a, b, c));
    } catch (RuntimeException e) {
      boolean isNamed = e.getClass() == IndexOutOfBoundsException.class
          || e.getClass() == IllegalArgumentException.class || e.getClass() == IllegalStateException.class;
      Check.due("an exception of call " + call + " is named: " + e, isNamed, true);
      return "throws " + e.getClass().getName();
    }
  }

  private long early(DurableLoom of, int call, int a, int b, int c) {
    switch (call) {
      case 0:
        return of.begin(a, b, c);
      case 1:
      case 2:
      case 3:
        return of.signal(a, b, c);
      case 4:
        return of.update(a, b, c) ? 1 : 0;
      case 5:
        return of.cancel(a) ? 1 : 0;
      case 6:
        return of.query(a, b);
      case 7:
        return of.plain(a, b);
      case 8:
        return of.difference(a);
      case 9:
        return of.event(a, b);
      case 10:
      case 11:
      case 12:
      case 13:
      case 14:
      case 15:
      case 16:
        return work(of, b);
      case 17:
        return of.poll(b);
      case 18:
        return of.complete(c % 50);
      default:
        return of.setRate(a);
    }
  }

  private long work(DurableLoom of, int worker) {
    int task = of.poll(worker);
    return task < 0 ? -9 : of.complete(task / 100);
  }

  private long late(DurableLoom of, int call, int a, int b, int c) {
    switch (call) {
      case 20:
      case 21:
      case 22:
        return of.take(b);
      case 23:
      case 24:
        return of.answer(a, c) ? 1 : 0;
      case 25:
        return of.fail(a, b == 0) ? 1 : 0;
      case 26:
        return of.beat(a, c);
      case 27:
      case 28:
      case 29:
        return of.pass(a);
      case 30:
        return of.unsafe(a, b);
      case 31:
        return of.move(a, b) ? 1 : 0;
      case 32:
        return of.setBack(a, b);
      case 33:
        return of.copy(a, b + 1);
      case 34:
        return of.takeOver();
      case 35:
        return of.join();
      case 36:
        return of.schedule(a, b, 1 + c % 20, b);
      case 37:
        return c % 2 == 0 ? of.backfill(a, b) : of.shift(b - a);
      case 38:
        return of.togglePause(a) ? 1 : 0;
      default:
        return b == 0 ? of.bringIn(a) : of.search(c % 10);
    }
  }

  /** The rules that hold for each run at any time. */
  private void lookAt(int run) {
    int size = Check.size(loom, run);
    int arrivals = 0;
    int counted = 0;
    for (int i = 0; i < size; i++) {
      int kind = loom.event(run, i) / 1000000;
      int x = loom.event(run, i) / 1000 % 1000;
      arrivals += kind <= 7 ? 1 : 0;
      if (kind == 17) {
        Check.due("a TASK counts more than the one before", x > counted && x <= arrivals, true);
        counted = x;
      }
      if (kind == 1 || kind == 2 || kind == 3 || kind == 5 || kind == 6 || kind == 11) {
        int by = loom.event(run, x) / 1000000;
        Check.due("x is the number of a command that is ahead", x < i && by >= 8 && by <= 10, true);
      }
    }
    Check.due("a history begins with START", size == 0 || loom.event(run, 0) / 1000000 == 0, true);
    for (int variable = 0; variable < 6; variable++) {
      int of = variable;
      if (Check.thrown(() -> loom.query(run, of)) == null) {
        Check.due("plain is query", loom.plain(run, of), loom.query(run, of));
      }
    }
  }
}
