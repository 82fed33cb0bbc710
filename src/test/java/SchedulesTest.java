/** Promises 33 to 38: schedule, togglePause, backfill, shift, bringIn, search. */
public final class SchedulesTest {
  public static void main(String[] args) {
    schedule();
    points();
    skipping();
    waiting();
    waitingWhilePaused();
    cancelling();
    both();
    pausing();
    shifting();
    belowZero();
    backfill();
    fullHouse();
    search();
    searchWrong();
    Check.end();
  }

  private static int input(DurableLoom loom, int run) {
    return loom.event(run, 0) / 1000;
  }

  private static DurableLoom waitingRuns() {
    return Check.with(Check.WAIT, 0, 0);
  }

  private static void schedule() {
    DurableLoom loom = waitingRuns();
    Check.dueIndex(loom, "schedule type -1", () -> loom.schedule(-1, 0, 1, 0));
    Check.dueIndex(loom, "schedule type 4", () -> loom.schedule(4, 0, 0, 4));
    Check.dueIndex(loom, "schedule tenant 3", () -> loom.schedule(0, 3, 0, 4));
    Check.dueIndex(loom, "schedule tenant -1", () -> loom.schedule(0, -1, 1, 0));
    Check.dueArgument(loom, "schedule period 0", () -> loom.schedule(1, 0, 0, 0));
    Check.dueArgument(loom, "schedule period 51", () -> loom.schedule(0, 0, 51, 0));
    Check.dueArgument(loom, "schedule overlap 4", () -> loom.schedule(1, 0, 1, 4));
    Check.dueArgument(loom, "schedule overlap -1", () -> loom.schedule(0, 0, 1, -1));
    Check.dueState(loom, "schedule without version", () -> loom.schedule(1, 0, 1, 0));
    for (int i = 0; i < 4; i++) {
      Check.due("schedule", loom.schedule(0, i % 3, i == 0 ? 1 : 50, i), i);
    }
    Check.dueState(loom, "the fifth schedule", () -> loom.schedule(0, 0, 1, 0));
    Check.dueArgument(loom, "the fifth schedule, wrong", () -> loom.schedule(0, 0, 51, 0));
    Check.due("nothing is begun at once", loom.runs(), 0);
  }

  private static void points() {
    DurableLoom loom = Check.with(Check.END, 0, 0);
    loom.pass(6);
    loom.schedule(0, 2, 3, 0);
    loom.pass(2);
    Check.due("ahead of the point", loom.runs(), 0);
    loom.pass(1);
    Check.due("at the point", loom.runs(), 1);
    Check.due("its input", input(loom, 0), 9);
    Check.workAll(loom);
    loom.pass(3);
    Check.due("at the next point", input(loom, 1), 12);
    loom.begin(0, 0, 1);
    Check.due("the tenant", loom.poll(0) % 100, 2);
    loom.pass(100);
    Check.due("the last one was open all the time", loom.runs(), 3);
  }

  private static void skipping() {
    DurableLoom loom = waitingRuns();
    loom.schedule(0, 0, 2, 0);
    loom.pass(7);
    Check.due("none while the last one is open", loom.runs(), 1);
    loom.signal(0, 0, 1);
    Check.workAll(loom);
    Check.due("none at once", loom.runs(), 1);
    loom.pass(1);
    Check.due("one when it is not", loom.runs(), 2);
    Check.due("its input", input(loom, 1), 8);
    // A run that is STUCK is not open.
    DurableLoom stuck = Check.with(Check.GOTO, 0, 0);
    stuck.schedule(0, 0, 2, 0);
    stuck.pass(2);
    Check.workAll(stuck);
    stuck.pass(2);
    Check.due("the last one is STUCK", stuck.runs(), 2);
  }

  private static void waiting() {
    DurableLoom loom = waitingRuns();
    loom.schedule(0, 0, 2, 1);
    loom.pass(7);
    Check.due("one waits", loom.runs(), 1);
    loom.signal(0, 0, 1);
    Check.workAll(loom);
    loom.pass(1);
    Check.due("it is begun in the next tick; the point of that tick waits", loom.runs(), 2);
    Check.due("its input is the first point's", input(loom, 1), 4);
    loom.signal(1, 0, 1);
    Check.workAll(loom);
    loom.pass(1);
    Check.due("the next that waited", input(loom, 2), 8);
    loom.signal(2, 0, 1);
    Check.workAll(loom);
    loom.pass(1);
    Check.due("none waited", loom.runs(), 4);
    Check.due("the point's own", input(loom, 3), 10);
  }

  private static void waitingWhilePaused() {
    DurableLoom loom = waitingRuns();
    loom.schedule(0, 0, 5, 1);
    loom.pass(10);
    Check.due("paused", loom.togglePause(0), true);
    loom.signal(0, 0, 1);
    Check.workAll(loom);
    loom.pass(1);
    Check.due("begun though it is paused", loom.runs(), 2);
    Check.due("its input", input(loom, 1), 10);
    loom.signal(1, 0, 1);
    Check.workAll(loom);
    loom.pass(20);
    Check.due("points of a paused one do not wait", loom.runs(), 2);
  }

  private static void cancelling() {
    DurableLoom loom = waitingRuns();
    loom.schedule(0, 0, 2, 2);
    loom.pass(4);
    Check.due("runs", loom.runs(), 2);
    Check.due("the first is cancelled", Check.history(loom, 0), "START 2 0, CANCEL 0 0");
    Check.due("the second is not", Check.history(loom, 1), "START 4 0");
    loom.cancel(1);
    loom.pass(2);
    Check.due("CANCEL does not come twice", Check.history(loom, 1), "START 4 0, CANCEL 0 0");
    Check.due("one is begun", input(loom, 2), 6);
  }

  private static void both() {
    DurableLoom loom = waitingRuns();
    loom.schedule(0, 0, 2, 3);
    loom.pass(6);
    Check.due("runs", loom.runs(), 3);
    Check.due("the first", Check.history(loom, 0), "START 2 0");
    Check.due("the last", Check.history(loom, 2), "START 6 0");
  }

  private static void pausing() {
    DurableLoom loom = waitingRuns();
    Check.dueIndex(loom, "togglePause(0)", () -> loom.togglePause(0));
    loom.schedule(0, 0, 2, 3);
    Check.dueIndex(loom, "togglePause(1)", () -> loom.togglePause(1));
    Check.dueIndex(loom, "togglePause(-1)", () -> loom.togglePause(-1));
    Check.due("togglePause", loom.togglePause(0), true);
    loom.pass(4);
    Check.due("paused", loom.runs(), 0);
    Check.due("togglePause", loom.togglePause(0), false);
    loom.pass(2);
    Check.due("points that were gone by do not count", loom.runs(), 1);
    Check.due("its input", input(loom, 0), 6);
  }

  private static void shifting() {
    DurableLoom loom = waitingRuns();
    Check.dueArgument(loom, "shift(21)", () -> loom.shift(21));
    Check.dueArgument(loom, "shift(-21)", () -> loom.shift(-21));
    loom.schedule(0, 0, 4, 3);
    Check.due("shift", loom.shift(9), 9);
    Check.due("nothing is looked at", loom.runs(), 0);
    loom.pass(1);
    Check.due("all points behind the last look", loom.runs(), 2);
    Check.due("the first point", input(loom, 0), 4);
    Check.due("the second point", input(loom, 1), 8);
    Check.due("shift back", loom.shift(-5), 5);
    loom.pass(5);
    Check.due("points that are come by once more", loom.runs(), 2);
    loom.pass(2);
    Check.due("a new point", input(loom, 2), 12);
    Check.due("shift", loom.shift(20), 32);
    Check.due("shift", loom.shift(-20), 12);
    Check.due("shift", loom.shift(0), 12);
    Check.due("schedule at the local time", loom.schedule(0, 0, 3, 3), 1);
    loom.pass(3);
    Check.due("its first point", input(loom, 3), 15);
    Check.due("runs", loom.runs(), 4);
  }

  private static void belowZero() {
    DurableLoom loom = waitingRuns();
    Check.due("shift", loom.shift(-10), -10);
    loom.schedule(0, 0, 4, 3);
    loom.pass(10);
    Check.due("points below 0", loom.runs(), 3);
    Check.due("the first", input(loom, 0), 992);
    Check.due("the second", input(loom, 1), 996);
    Check.due("the third", input(loom, 2), 0);
    Check.due("backfill counts from 1 on", loom.backfill(0, 5), 0);
    loom.pass(4);
    Check.due("backfill", loom.backfill(0, 5), 1);
    Check.due("its input", input(loom, 4), 4);
  }

  private static void backfill() {
    DurableLoom loom = waitingRuns();
    Check.dueIndex(loom, "backfill of no schedule", () -> loom.backfill(0, 0));
    loom.pass(10);
    loom.schedule(0, 1, 3, 2);
    Check.dueIndex(loom, "backfill of no schedule", () -> loom.backfill(1, 6));
    Check.dueIndex(loom, "backfill of no schedule", () -> loom.backfill(-1, 1));
    Check.dueArgument(loom, "backfill of 0", () -> loom.backfill(0, 0));
    Check.dueArgument(loom, "backfill of 6", () -> loom.backfill(0, 6));
    Check.due("backfill", loom.backfill(0, 2), 2);
    Check.due("the earliest first", input(loom, 0), 6);
    Check.due("then the last", input(loom, 1), 9);
    loom.togglePause(0);
    Check.due("backfill of more than there were", loom.backfill(0, 5), 3);
    Check.due("the earliest", input(loom, 2), 3);
    loom.togglePause(0);
    loom.pass(2);
    Check.due("a point", input(loom, 5), 12);
    Check.due("they do not count as begun last", Check.history(loom, 4), "START 9 0");
    loom.shift(6);
    Check.due("a shift is not looked at", loom.backfill(0, 1), 1);
    Check.due("the last point", input(loom, 6), 12);
    loom.pass(1);
    Check.due("the last one of the schedule is cancelled", Check.history(loom, 5), "START 12 0, CANCEL 0 0");
    DurableLoom late = waitingRuns();
    late.pass(3);
    late.begin(0, 0, 1);
    late.schedule(0, 2, 50, 0);
    for (int i = 0; i < 10; i++) {
      late.pass(100);
      late.togglePause(0);
    }
    late.backfill(0, 1);
    Check.due("the input by 1000", input(late, late.runs() - 1), 0);
    int before = late.runs();
    late.pass(50);
    late.backfill(0, 2);
    Check.due("the input by 1000", input(late, before + 1), 50);
    Check.due("poll", late.poll(0) % 100, 0);
    Check.due("the tenant of what is begun by it", late.poll(0) % 100, 1);
  }

  private static void fullHouse() {
    DurableLoom loom = waitingRuns();
    loom.schedule(0, 0, 1, 2);
    loom.schedule(0, 0, 50, 1);
    loom.pass(28);
    Check.due("runs", loom.runs(), 28);
    Check.due("backfill with room for two", loom.backfill(0, 5), 2);
    Check.due("runs", loom.runs(), 30);
    Check.due("backfill without room", loom.backfill(0, 5), 0);
    Check.due("the last run of the schedule", Check.history(loom, 27), "START 28 0");
    loom.pass(1);
    Check.due("no other run", loom.runs(), 30);
    Check.due("it is cancelled all the same", Check.history(loom, 27), "START 28 0, CANCEL 0 0");
    loom.pass(60);
    Check.due("runs", loom.runs(), 30);
  }

  private static void search() {
    DurableLoom loom = Check.with(Check.TAG, 0, 0, Check.WAIT, 0, 1, Check.TAG, 1, 0, Check.WAIT, 0, 1);
    for (int run = 0; run < 30; run++) {
      loom.begin(0, run % 3, run == 29 || run == 0 ? 500 : 0);
    }
    Check.workAll(loom);
    Check.due("the search lags", loom.search(0), 0);
    Check.due("bringIn", loom.bringIn(1), 29);
    Check.due("search", loom.search(500), 1);
    Check.due("bringIn of all", loom.bringIn(100), 0);
    Check.due("search", loom.search(500), 1 << 29 | 1);
    Check.due("search", loom.search(0), (1 << 29) - 2);
    Check.due("search of none", loom.search(999), 0);
    loom.pass(1);
    loom.signal(0, 0, 999);
    Check.workAll(loom);
    Check.due("the search lags", loom.search(500), 1 << 29 | 1);
    Check.due("bringIn", loom.bringIn(1), 0);
    Check.due("the tag before is not its tag any more", loom.search(500), 1 << 29);
    Check.due("the new tag", loom.search(999), 1);
    loom.signal(0, 3, 1);
    loom.cancel(0);
    Check.workAll(loom);
    Check.due("a closed run has its tag", loom.search(999), 1);
    DurableLoom order = Check.with(Check.TAG, 0, 0, Check.SET, 0, 8, Check.TAG, 0, 0);
    order.begin(0, 0, 7);
    Check.workAll(order);
    Check.due("bringIn of the first", order.bringIn(1), 1);
    Check.due("search", order.search(7), 1);
    Check.due("bringIn of the second", order.bringIn(1), 0);
    Check.due("search", order.search(7), 0);
    Check.due("search", order.search(8), 1);
  }

  private static void searchWrong() {
    DurableLoom loom = waitingRuns();
    loom.begin(0, 0, 0);
    Check.due("a run without a tag", loom.search(0), 0);
    Check.dueArgument(loom, "bringIn(0)", () -> loom.bringIn(0));
    Check.dueArgument(loom, "bringIn(101)", () -> loom.bringIn(101));
    Check.dueArgument(loom, "search(-1)", () -> loom.search(-1));
    Check.dueArgument(loom, "search(1000)", () -> loom.search(1000));
    Check.due("bringIn of none", loom.bringIn(100), 0);
  }
}
