/** Promises 27 to 32: unsafe, move, setBack, copy, takeOver, join. */
public final class OtherHistoriesTest {
  public static void main(String[] args) {
    unsafe();
    move();
    setBack();
    setBackWork();
    setBackFamily();
    setBackKeepsOrder();
    longHistories();
    setBackWrong();
    copy();
    takeOver();
    takeOverWork();
    takeOverTimers();
    takeOverFamily();
    takeOverMidway();
    join();
    joinOfOthers();
    Check.end();
  }

  private static void unsafe() {
    DurableLoom loom = Check.with(Check.TIMER, 9, 0, Check.WAIT, 0, 0);
    loom.begin(0, 0, 1);
    loom.begin(0, 1, 2);
    loom.begin(0, 2, 3);
    Check.due("unsafe by its own", loom.unsafe(0, 0), 0);
    Check.code(loom, 0, Check.WAIT, 0, 0, Check.TIMER, 9, 0);
    Check.due("unsafe ahead of all TASKs", loom.unsafe(0, 1), 0);
    Check.work(loom, 0);
    Check.due("unsafe", loom.unsafe(0, 1), 1);
    Check.work(loom, 0);
    Check.due("unsafe", loom.unsafe(0, 1), 2);
    Check.due("unsafe by the first", loom.unsafe(0, 0), 0);
    Check.code(loom, 1, Check.TIMER, 1, 0);
    Check.due("unsafe of another type", loom.unsafe(1, 0), 0);
    Check.dueIndex(loom, "unsafe(-1, 0)", () -> loom.unsafe(-1, 0));
    Check.dueIndex(loom, "unsafe(4, 0)", () -> loom.unsafe(4, 0));
    Check.dueIndex(loom, "unsafe(0, 2)", () -> loom.unsafe(0, 2));
    Check.dueIndex(loom, "unsafe(0, -1)", () -> loom.unsafe(0, -1));
    Check.dueIndex(loom, "unsafe(1, 1)", () -> loom.unsafe(1, 1));
    Check.dueIndex(loom, "unsafe(2, 0)", () -> loom.unsafe(2, 0));
  }

  private static void move() {
    DurableLoom loom = Check.with(Check.WAIT, 0, 0);
    Check.code(loom, 0, Check.SET, 0, 50, Check.WAIT, 0, 1);
    Check.code(loom, 1, Check.WAIT, 0, 0);
    Check.code(loom, 1, Check.WAIT, 0, 0);
    Check.code(loom, 1, Check.WAIT, 0, 0);
    loom.begin(0, 0, 7);
    Check.dueIndex(loom, "move of no run", () -> loom.move(1, 0));
    Check.dueIndex(loom, "move of no run", () -> loom.move(-1, 0));
    Check.dueIndex(loom, "move to a version of another type", () -> loom.move(0, 2));
    Check.dueIndex(loom, "move to the version -1", () -> loom.move(0, -1));
    Check.due("move to its own", loom.move(0, 1), true);
    Check.due("move", loom.move(0, 0), true);
    Check.work(loom, 0);
    Check.due("query", loom.query(0, 0), 7);
    Check.due("move", loom.move(0, 1), true);
    Check.due("query by another version", loom.query(0, 0), 50);
    loom.signal(0, 0, 3);
    Check.work(loom, 0);
    Check.due("work by another version", Check.history(loom, 0, 2), "SIGNAL 0 3, DONE 50 0, TASK 2 0");
    Check.dueState(loom, "move of a closed run", () -> loom.move(0, 0));
    Check.dueIndex(loom, "move of a closed run to no version", () -> loom.move(0, 2));
  }

  private static void setBack() {
    DurableLoom loom = Check.with(Check.WAIT, 0, 0, Check.TAG, 0, 0, Check.WAIT, 0, 1, Check.TAG, 1, 0, Check.WAIT, 0, 2);
    loom.begin(0, 1, 7);
    Check.work(loom, 0);
    loom.signal(0, 0, 5);
    Check.work(loom, 0);
    loom.signal(0, 3, 8);
    loom.signal(0, 0, 6);
    Check.work(loom, 0);
    Check.code(loom, 0, Check.WAIT, 0, 0);
    Check.due("the history", Check.history(loom, 0), "START 7 0, TASK 1 0, SIGNAL 0 5, TAG 5 0, TASK 2 0, "
        + "SIGNAL 3 8, SIGNAL 0 6, TAG 6 0, TASK 4 0");
    Check.due("setBack to the second TASK", loom.setBack(0, 1), 1);
    Check.due("the old run", loom.standing(0), 95);
    Check.due("the new run", Check.history(loom, 1),
        "START 7 0, TASK 1 0, SIGNAL 0 5, TAG 5 0, TASK 2 0, SIGNAL 3 8, SIGNAL 0 6");
    loom.pass(1);
    Check.due("the new run's task", loom.poll(0), 301);
    Check.due("a worker has no state of it", loom.replays(0), 1);
    Check.due("complete", loom.complete(3), 1);
    Check.due("replays", loom.replays(0), 2);
    Check.due("the version is kept", Check.variables(loom, 1), "5 6 0 0 0 0");
    Check.due("setBack to the first TASK", loom.setBack(1, 0), 2);
    Check.due("the new run", Check.history(loom, 2), "START 7 0, TASK 1 0, SIGNAL 0 5, SIGNAL 3 8, SIGNAL 0 6");
    Check.due("setBack to the last TASK", loom.setBack(2, 0), 3);
    Check.due("the new run", Check.history(loom, 3), "START 7 0, TASK 1 0, SIGNAL 0 5, SIGNAL 3 8, SIGNAL 0 6");
  }

  /** Activities 1 to 4 of a run: answered, failed, taken, waiting; timers: fired, due, and gone by. */
  private static void setBackWork() {
    DurableLoom loom = Check.with(Check.PAR, 10, 0, Check.PAR, 12, 0, Check.PAR, 14, 0, Check.PAR, 16, 0, Check.PAR, 18, 0,
        Check.PAR, 20, 0, Check.WAIT, 0, 5, Check.TAG, 0, 0, Check.WAIT, 1, 5, Check.END, 0, 0,
        Check.ACT, 0, 1, Check.END, 0, 0, Check.ACT, 1, 1, Check.END, 0, 0, Check.ACT, 2, 1, Check.END, 0, 0,
        Check.TIMER, 2, 0, Check.END, 0, 0, Check.TIMER, 30, 0, Check.END, 0, 0, Check.TIMER, 5, 0, Check.END, 0, 0);
    loom.pass(10);
    loom.begin(0, 0, 7);
    Check.work(loom, 0);
    Check.due("the history", Check.history(loom, 0, 1),
        "ACTIVITY 0 0, ACTIVITY 1 0, ACTIVITY 2 0, TIMER 2 0, TIMER 30 0, TIMER 5 0, TASK 1 0");
    loom.take(0);
    loom.answer(0, 5);
    loom.take(2);
    loom.beat(2, 9);
    loom.pass(2);
    loom.signal(0, 0, 1);
    Check.work(loom, 0);
    loom.pass(4);
    loom.take(1);
    loom.answer(1, 6);
    Check.due("setBack", loom.setBack(0, 1), 1);
    Check.due("the new run", Check.history(loom, 1, 8), "ANSWER 1 5, FIRED 4 0, SIGNAL 0 1, TAG 7 0, TASK 4 0");
    Check.due("the activity that was taken is over", loom.activity(2), 12);
    Check.due("the activity that was answered behind it", loom.activity(1), 12);
    Check.due("it begins anew", loom.activity(3), 100);
    Check.due("the other one as well", loom.activity(4), 100);
    Check.dueIndex(loom, "no other activity", () -> loom.activity(5));
    Check.due("take", loom.take(1), 3000);
    Check.due("take", loom.take(2), 4000);
    Check.due("the progress is 0 then", loom.beat(4, 1), 0);
    loom.pass(1);
    Check.due("a timer that was due fires in the next tick", Check.history(loom, 1, 13), "FIRED 6 0");
    loom.pass(22);
    Check.due("ahead of the time", Check.history(loom, 1, 14), "");
    loom.pass(1);
    Check.due("a timer is due when it was to be", Check.history(loom, 1, 14), "FIRED 5 0");
    Check.due("no timer of the old run fires", Check.history(loom, 0, 13), "FIRED 6 0, ANSWER 2 6");
  }

  private static void setBackFamily() {
    DurableLoom loom = Check.with(Check.CHILD, 1, 0);
    Check.code(loom, 1, Check.CHILD, 2, 0, Check.SET, 0, 33);
    Check.code(loom, 2, Check.WAIT, 0, 0);
    loom.setPolicy(2, 2);
    loom.begin(0, 0, 7);
    Check.workAll(loom);
    Check.due("setBack of the child", loom.setBack(1, 0), 3);
    Check.due("the parent is not told", loom.standing(0), 30);
    Check.due("the child's child stays", loom.standing(2), 20);
    loom.signal(2, 0, 1);
    Check.workAll(loom);
    Check.due("it is done", Check.status(loom, 2), DurableLoom.DONE);
    Check.due("the new run waits in vain", Check.history(loom, 3), "START 7 0, CHILD 2 7, TASK 1 0");
    loom.cancel(3);
    Check.workAll(loom);
    Check.due("the new run is the parent's child", Check.history(loom, 0, 3), "BROKEN 1 0, FAIL 0 0, TASK 2 0");
    DurableLoom stuck = Check.with(Check.WAIT, 0, 0, Check.GOTO, 1, 0);
    stuck.begin(0, 0, 7);
    Check.work(stuck, 0);
    stuck.signal(0, 0, 1);
    Check.work(stuck, 0);
    Check.due("setBack of a run that is STUCK", stuck.setBack(0, 0), 1);
    Check.due("it is open", Check.status(stuck, 1), DurableLoom.OPEN);
    Check.due("the old run", Check.status(stuck, 0), DurableLoom.STOPPED);
  }

  /** An arrival ahead of the TASK that it does not count is copied; the signals behind come now. */
  private static void setBackKeepsOrder() {
    DurableLoom loom = Check.with(Check.WAIT, 0, 0, Check.WAIT, 0, 1);
    loom.begin(0, 0, 7);
    int task = loom.poll(0);
    loom.signal(0, 0, 1);
    loom.complete(task / 100);
    loom.begin(0, 0, 8);
    loom.pass(1);
    loom.setBack(0, 0);
    Check.due("the new run", Check.history(loom, 2), "START 7 0, SIGNAL 0 1, TASK 1 0");
    Check.due("its arrival came ahead", loom.poll(0), 102);
    DurableLoom behind = Check.with(Check.WAIT, 0, 0, Check.NOW, 3, 0, Check.WAIT, 0, 1);
    behind.begin(0, 0, 7);
    Check.work(behind, 0);
    behind.signal(0, 0, 1);
    behind.begin(0, 0, 8);
    behind.pass(6);
    behind.setBack(0, 0);
    Check.due("the signal comes once more, behind", behind.poll(0), 101);
    Check.due("poll", behind.poll(0), 202);
    behind.complete(2);
    Check.due("it comes now", behind.query(2, 3), 6);
  }

  /** Whatever is done with a run that was set back, and that a take over cuts: the others stay as they are. */
  private static void longHistories() {
    for (int tags = 0; tags < 4; tags++) {
      DurableLoom loom = new DurableLoom();
      for (int i = 0; i < tags; i++) {
        loom.line(0, Check.TAG, 0, 0);
      }
      Check.code(loom, 0, Check.TIMER, 1, 0, Check.NOW, 1, 0, Check.TAG, 1, 0, Check.GOTO, tags, 0);
      loom.begin(0, 0, 7);
      Check.work(loom, 0);
      tick(loom, 70);
      String first = Check.history(loom, 0);
      Check.due("its events", first.split(", ").length, 283 + tags);
      int[] tasks = {63, 48, 47, 46, 32, 31, 30, 16, 15, 14};
      for (int run = 0; run < tasks.length; run++) {
        String before = Check.history(loom, run);
        String part = upTo(before, tasks[run]);
        Check.due("setBack", loom.setBack(run, tasks[run]), run + 1);
        Check.due("the events up to the TASK", Check.history(loom, run + 1), part);
        tick(loom, 2);
        Check.due("the new run goes on", Check.history(loom, run + 1).startsWith(part + ", FIRED "), true);
        int copied = part.split(", ").length - run % 4;
        copy(loom, run + 1, copied);
        String lost = Check.history(loom, run + 1);
        Check.due("takeOver", loom.takeOver(), lost.split(", ").length - copied);
        loom.join();
        Check.due("what was copied", Check.history(loom, run + 1), prefix(before, copied));
        tick(loom, 7);
        Check.due("that stays", prefix(Check.history(loom, run + 1), copied), prefix(before, copied));
        Check.due("the run that was set back", Check.history(loom, run), before);
        Check.due("the first run", Check.history(loom, 0), first);
        Check.due("it is safe", loom.unsafe(0, 0), 0);
      }
    }
  }

  private static void copy(DurableLoom loom, int run, int events) {
    int copied = 0;
    for (int i = 0; i < 5 && copied < events; i++) {
      copied = loom.copy(run, Math.min(100, events - copied));
    }
    Check.due("copy", copied, events);
  }

  private static String upTo(String history, int task) {
    int at = -1;
    for (int i = 0; i <= task; i++) {
      at = history.indexOf("TASK", at + 1);
    }
    int end = history.indexOf(", ", at);
    return end < 0 ? history : history.substring(0, end);
  }

  private static String prefix(String history, int events) {
    String[] parts = history.split(", ");
    return String.join(", ", java.util.Arrays.copyOf(parts, Math.min(events, parts.length)));
  }

  private static void tick(DurableLoom loom, int many) {
    for (int i = 0; i < many; i++) {
      loom.pass(1);
      Check.due("a task", Check.work(loom, 0) > 0, true);
    }
  }

  private static void setBackWrong() {
    DurableLoom loom = Check.with(Check.WAIT, 0, 0);
    loom.begin(0, 0, 7);
    Check.dueIndex(loom, "setBack without TASK", () -> loom.setBack(0, 0));
    Check.work(loom, 0);
    Check.dueIndex(loom, "setBack to no TASK", () -> loom.setBack(0, 1));
    Check.dueIndex(loom, "setBack to -1", () -> loom.setBack(0, -1));
    Check.dueIndex(loom, "setBack of no run", () -> loom.setBack(1, 0));
    Check.dueIndex(loom, "setBack of no run", () -> loom.setBack(-1, 0));
    loom.signal(0, 0, 5);
    Check.work(loom, 0);
    Check.dueState(loom, "setBack of a closed run", () -> loom.setBack(0, 0));
    Check.dueIndex(loom, "setBack of a closed run to no TASK", () -> loom.setBack(0, 2));
    loom.pass(1);
    for (int i = 1; i < 30; i++) {
      loom.begin(0, 0, 7);
    }
    Check.work(loom, 0);
    Check.dueState(loom, "setBack without room", () -> loom.setBack(1, 0));
    Check.dueIndex(loom, "setBack without room to no TASK", () -> loom.setBack(1, 1));
  }

  private static void copy() {
    DurableLoom loom = Check.with(Check.WAIT, 0, 0);
    loom.begin(0, 0, 7);
    loom.signal(0, 1, 1);
    loom.signal(0, 1, 2);
    Check.dueIndex(loom, "copy of no run", () -> loom.copy(1, 0));
    Check.dueIndex(loom, "copy of no run", () -> loom.copy(-1, 1));
    Check.dueArgument(loom, "copy of 0", () -> loom.copy(0, 0));
    Check.dueArgument(loom, "copy of 101", () -> loom.copy(0, 101));
    Check.due("copy", loom.copy(0, 1), 1);
    Check.due("copy", loom.copy(0, 1), 2);
    Check.due("copy", loom.copy(0, 100), 3);
    Check.due("copy", loom.copy(0, 1), 3);
    loom.signal(0, 0, 3);
    Check.work(loom, 0);
    Check.due("copy of a closed run", loom.copy(0, 2), 5);
    Check.due("copy of a closed run", loom.copy(0, 2), 6);
  }

  private static void takeOver() {
    DurableLoom loom = Check.with(Check.WAIT, 0, 0, Check.WAIT, 0, 1);
    loom.begin(0, 0, 7);
    loom.begin(0, 1, 8);
    loom.begin(0, 2, 9);
    Check.workAll(loom);
    loom.signal(0, 0, 1);
    loom.signal(1, 0, 2);
    loom.signal(2, 0, 3);
    loom.copy(0, 100);
    loom.copy(1, 1);
    Check.dueState(loom, "join of joined sites", () -> loom.join());
    Check.due("takeOver", loom.takeOver(), 2 + 3);
    Check.due("all is copied", Check.history(loom, 0), "START 7 0, TASK 1 0, SIGNAL 0 1");
    Check.due("one is copied", Check.history(loom, 1), "START 8 0");
    Check.due("nothing is copied", loom.standing(2), DurableLoom.STOPPED);
    Check.due("query", loom.query(2, 0), 0);
    Check.dueIndex(loom, "an event of it", () -> loom.event(2, 0));
    Check.dueState(loom, "takeOver again", () -> loom.takeOver());
    Check.due("copies stay", loom.copy(1, 100), 1);
    loom.pass(1);
    Check.due("a run without TASK has work", loom.complete(loom.poll(0) / 100) >= 0, true);
    Check.due("the other one too", loom.complete(loom.poll(0) / 100) >= 0, true);
    Check.due("copies behind it", loom.copy(1, 100), 2);
    Check.due("join", loom.join(), 1);
    Check.dueState(loom, "join again", () -> loom.join());
    Check.due("takeOver", loom.takeOver() > 0, true);
  }

  private static void takeOverWork() {
    DurableLoom loom = Check.with(Check.PAR, 4, 0, Check.PAR, 5, 0, Check.WAIT, 0, 5, Check.END, 0, 0,
        Check.ACT, 0, 1, Check.TIMER, 5, 0);
    loom.begin(0, 0, 7);
    Check.work(loom, 0);
    Check.due("the history", Check.history(loom, 0), "START 7 0, ACTIVITY 0 0, TIMER 5 0, TASK 1 0");
    loom.take(0);
    loom.pass(3);
    loom.answer(0, 9);
    loom.copy(0, 4);
    Check.due("takeOver", loom.takeOver(), 1);
    Check.due("the activity in place of the old one", loom.activity(1), 0);
    Check.due("the old one", loom.activity(0), 12);
    loom.pass(1);
    Check.due("the timer ahead of its time", loom.standing(0), 40);
    loom.pass(1);
    Check.due("the timer at its time", Check.history(loom, 0, 4), "FIRED 2 0");
    loom.pass(10);
    loom.join();
    Check.due("take", loom.take(0), 1000);
    loom.copy(0, 100);
    Check.due("nothing is lost", loom.takeOver(), 0);
    Check.due("but the activity is made anew", loom.activity(1), 12);
    Check.due("the new one", loom.activity(2), 0);
    loom.pass(10);
    Check.due("a timer that fired does not fire again", Check.history(loom, 0, 4), "FIRED 2 0");
  }

  /** Two timers are made anew with the times at which they were due; CANCEL is an arrival that stays. */
  private static void takeOverTimers() {
    DurableLoom loom = Check.with(Check.PAR, 4, 0, Check.SHIELD, 0, 0, Check.TIMER, 3, 0, Check.WAIT, 0, 0,
        Check.SHIELD, 0, 0, Check.TIMER, 9, 0, Check.WAIT, 0, 0);
    loom.begin(0, 0, 7);
    Check.work(loom, 0);
    loom.cancel(0);
    loom.signal(0, 3, 1);
    loom.copy(0, 5);
    loom.pass(1);
    Check.due("takeOver", loom.takeOver(), 1);
    loom.pass(2);
    Check.due("the first timer", Check.history(loom, 0, 4), "CANCEL 0 0, FIRED 1 0");
    loom.pass(5);
    Check.due("the second timer is not due", loom.standing(0), 60);
    loom.pass(1);
    Check.due("the second timer", Check.history(loom, 0, 6), "FIRED 2 0");
    Check.due("cancel", loom.cancel(0), false);
    int task = loom.poll(0);
    Check.due("complete", loom.complete(task / 100), 0);
    Check.due("all arrivals count", Check.history(loom, 0, 7), "TASK 4 0");
    Check.due("no work is left", loom.poll(0), -1);
    // A timer that fired is due once more when FIRED is lost.
    DurableLoom fired = Check.with(Check.PAR, 3, 0, Check.TIMER, 3, 0, Check.END, 0, 0, Check.TIMER, 9, 0);
    fired.begin(0, 0, 7);
    Check.work(fired, 0);
    fired.copy(0, 4);
    fired.pass(5);
    Check.due("takeOver", fired.takeOver(), 1);
    fired.pass(1);
    Check.due("the next tick", Check.history(fired, 0, 4), "FIRED 1 0");
    fired.pass(2);
    Check.due("ahead of the other", fired.standing(0), 50);
    fired.pass(1);
    Check.due("the other", Check.history(fired, 0, 5), "FIRED 2 0");
    // The run 0 is the one without copied events.
    DurableLoom first = Check.with(Check.WAIT, 0, 0);
    first.begin(0, 0, 7);
    first.begin(0, 0, 7);
    first.copy(1, 1);
    Check.due("takeOver", first.takeOver(), 1);
    Check.due("the first run", first.standing(0), 5);
    Check.due("the second run", first.standing(1), 10);
  }

  private static void takeOverFamily() {
    DurableLoom loom = Check.with(Check.CHILD, 1, 0);
    Check.code(loom, 1, Check.WAIT, 0, 0);
    loom.begin(0, 0, 7);
    loom.begin(0, 1, 8);
    Check.workAll(loom);
    Check.due("runs", loom.runs(), 4);
    loom.copy(0, 1);
    loom.copy(1, 3);
    loom.copy(2, 2);
    Check.due("takeOver", loom.takeOver(), 2 + 2);
    Check.due("its child has no parent any more", loom.standing(0), 10);
    Check.due("the child stays", loom.standing(2), 20);
    Check.due("a child without copied events", loom.standing(3), DurableLoom.STOPPED);
    Check.due("its parent is told", Check.history(loom, 1, 3), "BROKEN 1 0");
    loom.signal(2, 0, 5);
    Check.workAll(loom);
    Check.due("that child is done", Check.status(loom, 2), DurableLoom.DONE);
    Check.due("its parent begins another", Check.history(loom, 0), "START 7 0, CHILD 1 7, TASK 1 0");
    Check.due("runs", loom.runs(), 5);
  }

  /** Events are cut between commands and their TASK: they are met once more, or left. */
  private static void takeOverMidway() {
    int[] lines = {Check.PAR, 3, 0, Check.TIMER, 5, 0, Check.END, 0, 0, Check.ACT, 0, 0, Check.TAG, 0, 0};
    DurableLoom loom = Check.with(lines);
    loom.begin(0, 0, 7);
    Check.work(loom, 0);
    loom.copy(0, 2);
    loom.takeOver();
    Check.due("the history", Check.history(loom, 0), "START 7 0, TIMER 5 0");
    Check.due("it is safe", loom.unsafe(0, 0), 0);
    loom.pass(5);
    Check.due("the timer is made", Check.history(loom, 0, 2), "FIRED 1 0");
    int task = loom.poll(0);
    Check.due("the commands that are new", loom.complete(task / 100), 2);
    Check.due("the history", Check.history(loom, 0, 3), "ACTIVITY 0 7, DONE 7 0, TASK 2 0");
    DurableLoom left = Check.with(Check.WAIT, 0, 0, Check.TIMER, 5, 0, Check.END, 0, 0);
    left.begin(0, 0, 7);
    left.signal(0, 3, 1);
    left.signal(0, 0, 1);
    Check.work(left, 0);
    Check.due("the history", Check.history(left, 0, 3), "TIMER 5 0, TASK 3 0");
    left.copy(0, 4);
    left.takeOver();
    Check.code(left, 0, Check.WAIT, 0, 0, Check.WAIT, 1, 1);
    left.move(0, 1);
    Check.due("a command is left", Check.work(left, 0), -2);
    Check.due("the difference", left.difference(0), 3);
  }

  private static void join() {
    DurableLoom loom = Check.with(Check.WAIT, 0, 0, Check.WAIT, 0, 1, Check.WAIT, 0, 2);
    loom.begin(0, 0, 7);
    loom.begin(0, 1, 8);
    Check.workAll(loom);
    loom.signal(1, 2, 5);
    loom.signal(0, 0, 1);
    loom.signal(0, 3, 2);
    loom.cancel(0);
    loom.signal(0, 0, 3);
    loom.copy(0, 2);
    loom.copy(1, 2);
    Check.due("takeOver", loom.takeOver(), 5);
    loom.signal(0, 0, 4);
    loom.pass(1);
    Check.work(loom, 0);
    Check.due("join", loom.join(), 4);
    Check.due("the first run", Check.history(loom, 0),
        "START 7 0, TASK 1 0, SIGNAL 0 4, TASK 2 0, SIGNAL 0 1, SIGNAL 3 2, SIGNAL 0 3");
    Check.due("the second run", Check.history(loom, 1), "START 8 0, TASK 1 0, SIGNAL 2 5");
    Check.due("CANCEL can come again", loom.cancel(0), true);
    loom.copy(0, 100);
    loom.copy(1, 100);
    Check.due("takeOver", loom.takeOver(), 0);
    Check.due("nothing is lost any more", loom.join(), 0);
  }

  private static void joinOfOthers() {
    DurableLoom loom = Check.with(Check.WAIT, 0, 0);
    loom.begin(0, 0, 7);
    loom.begin(0, 1, 8);
    loom.begin(0, 2, 9);
    Check.workAll(loom);
    for (int run = 0; run < 3; run++) {
      loom.copy(run, run == 2 ? 0 + 1 : 2);
      loom.signal(run, 1, 5);
    }
    Check.code(loom, 0, Check.GOTO, 0, 0);
    Check.due("takeOver", loom.takeOver(), 1 + 1 + 2);
    loom.signal(0, 0, 3);
    Check.workAll(loom);
    Check.due("the first run is closed", Check.status(loom, 0), DurableLoom.DONE);
    loom.move(2, 1);
    loom.signal(2, 0, 3);
    Check.work(loom, 0);
    Check.due("the third run", Check.status(loom, 2), DurableLoom.STUCK);
    Check.due("join comes to open runs alone", loom.join(), 1);
    Check.due("the second run", Check.history(loom, 1, 2), "SIGNAL 1 5");
  }
}
