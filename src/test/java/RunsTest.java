/** Promises 6 to 15: begin, signal, update, cancel, query, plain, standing, event, difference, runs. */
public final class RunsTest {
  public static void main(String[] args) {
    begin();
    thirtyRuns();
    signal();
    hundredEvents();
    update();
    cancel();
    queries();
    standings();
    events();
    differences();
    constants();
    Check.end();
  }

  private static void begin() {
    DurableLoom loom = Check.with(Check.WAIT, 0, 0);
    Check.due("begin", loom.begin(0, 0, 0), 0);
    Check.due("begin", loom.begin(0, 2, 999), 1);
    Check.due("runs", loom.runs(), 2);
    Check.due("the first event", loom.event(1, 0), 999000);
    Check.due("standing", loom.standing(1), 10);
    Check.dueIndex(loom, "begin type -1", () -> loom.begin(-1, 0, 0));
    Check.dueIndex(loom, "begin type 4", () -> loom.begin(4, 0, 1000));
    Check.dueIndex(loom, "begin tenant -1", () -> loom.begin(0, -1, 0));
    Check.dueIndex(loom, "begin tenant 3", () -> loom.begin(1, 3, 1000));
    Check.dueArgument(loom, "begin input -1", () -> loom.begin(0, 0, -1));
    Check.dueArgument(loom, "begin input 1000", () -> loom.begin(1, 0, 1000));
    Check.dueState(loom, "begin without version", () -> loom.begin(1, 0, 0));
    loom.line(1, Check.END, 0, 0);
    Check.dueState(loom, "begin with a draft alone", () -> loom.begin(1, 0, 0));
  }

  private static void thirtyRuns() {
    DurableLoom loom = Check.with(Check.END, 0, 0);
    for (int i = 0; i < 30; i++) {
      Check.due("begin", loom.begin(0, i % 3, i), i);
    }
    Check.dueState(loom, "the 31st run", () -> loom.begin(0, 0, 0));
    Check.dueArgument(loom, "the 31st run, wrong", () -> loom.begin(0, 0, 1000));
    Check.dueIndex(loom, "the 31st run, no tenant", () -> loom.begin(0, 3, 1000));
    Check.workAll(loom);
    Check.dueState(loom, "the 31st run when all are closed", () -> loom.begin(0, 0, 0));
    Check.due("runs", loom.runs(), 30);
  }

  private static void signal() {
    DurableLoom loom = Check.with(Check.WAIT, 3, 1, Check.WAIT, 3, 2, Check.WAIT, 0, 0);
    loom.begin(0, 0, 7);
    Check.due("signal", loom.signal(0, 3, 11), 1);
    Check.due("signal", loom.signal(0, 0, 22), 2);
    Check.due("signal", loom.signal(0, 3, 0), 3);
    Check.due("signal", loom.signal(0, 3, 999), 4);
    Check.dueIndex(loom, "signal to no run", () -> loom.signal(1, 0, 0));
    Check.dueIndex(loom, "signal to no run", () -> loom.signal(-1, 4, 1000));
    Check.dueIndex(loom, "signal of no name", () -> loom.signal(0, 4, 1000));
    Check.dueIndex(loom, "signal of no name", () -> loom.signal(0, -1, 0));
    Check.dueArgument(loom, "signal 1000", () -> loom.signal(0, 0, 1000));
    Check.dueArgument(loom, "signal -1", () -> loom.signal(0, 0, -1));
    Check.due("work", Check.work(loom, 0), 1);
    Check.due("the run", Check.history(loom, 0),
        "START 7 0, SIGNAL 3 11, SIGNAL 0 22, SIGNAL 3 0, SIGNAL 3 999, DONE 22 0, TASK 5 0");
    Check.due("the variables", Check.variables(loom, 0), "22 11 0 0 0 0");
    Check.dueState(loom, "signal to a closed run", () -> loom.signal(0, 0, 0));
    Check.dueArgument(loom, "signal to a closed run, wrong", () -> loom.signal(0, 0, 1000));
  }

  private static void hundredEvents() {
    DurableLoom loom = Check.with(Check.WAIT, 0, 0);
    loom.begin(0, 0, 7);
    Check.work(loom, 0);
    for (int i = 2; i < 100; i++) {
      Check.due("signal", loom.signal(0, 1, 5), i);
    }
    Check.dueState(loom, "signal at 100 events", () -> loom.signal(0, 1, 5));
    Check.dueState(loom, "update at 100 events", () -> loom.update(0, 0, 5));
    Check.dueArgument(loom, "signal at 100 events, wrong", () -> loom.signal(0, 1, 1000));
    Check.dueArgument(loom, "update at 100 events, wrong", () -> loom.update(0, 1, 1000));
    Check.dueIndex(loom, "signal at 100 events, no name", () -> loom.signal(0, 4, 1000));
    Check.due("cancel at 100 events", loom.cancel(0), true);
    Check.due("standing", loom.standing(0), 1010);
  }

  private static void update() {
    DurableLoom loom = Check.with(Check.WAIT, 1, 1, Check.WAIT, 1, 2, Check.WAIT, 0, 3);
    Check.code(loom, 0, Check.ACT, 0, 0);
    Check.code(loom, 0, Check.WAIT, 1, 1, Check.WAIT, 1, 2, Check.WAIT, 0, 3);
    loom.begin(0, 0, 7);
    Check.due("update ahead of the first TASK", loom.update(0, 1, 5), false);
    Check.work(loom, 0);
    Check.due("update of a name that is not waited for", loom.update(0, 0, 5), false);
    Check.due("update", loom.update(0, 1, 5), true);
    Check.due("the event", Check.history(loom, 0, 2), "SIGNAL 1 5");
    Check.due("update when one has come", loom.update(0, 1, 6), false);
    Check.work(loom, 0);
    Check.due("update", loom.update(0, 1, 6), true);
    Check.work(loom, 0);
    Check.due("the variables", Check.variables(loom, 0), "7 5 6 0 0 0");
    loom.pass(1);
    loom.signal(0, 1, 9);
    Check.due("update when another has come", loom.update(0, 0, 8), true);
    Check.dueIndex(loom, "update of no run", () -> loom.update(1, 0, 0));
    Check.dueIndex(loom, "update of no name", () -> loom.update(0, 4, 1000));
    Check.dueArgument(loom, "update 1000", () -> loom.update(0, 0, 1000));
    Check.dueArgument(loom, "update -1", () -> loom.update(0, 0, -1));
    Check.work(loom, 0);
    Check.due("the run is done", Check.status(loom, 0), DurableLoom.DONE);
    Check.dueState(loom, "update of a closed run", () -> loom.update(0, 0, 0));
    updateOfUnsafeAndStuck();
  }

  private static void updateOfUnsafeAndStuck() {
    DurableLoom loom = Check.with(Check.PAR, 2, 0, Check.WAIT, 1, 1, Check.TIMER, 9, 0);
    Check.code(loom, 0, Check.PAR, 2, 0, Check.WAIT, 1, 1, Check.TIMER, 8, 0);
    loom.begin(0, 0, 7);
    loom.move(0, 0);
    Check.work(loom, 0);
    Check.due("move to a version that is not safe", loom.move(0, 1), false);
    Check.due("update when the version is not safe", loom.update(0, 1, 5), false);
    loom.signal(0, 1, 5);
    Check.due("work", Check.work(loom, 0), -2);
    Check.dueState(loom, "update of a run that is STUCK", () -> loom.update(0, 1, 5));
    Check.due("signal to a run that is STUCK", loom.signal(0, 1, 5), 4);
  }

  private static void cancel() {
    DurableLoom loom = Check.with(Check.WAIT, 0, 0);
    loom.begin(0, 0, 7);
    Check.due("cancel", loom.cancel(0), true);
    Check.due("cancel again", loom.cancel(0), false);
    Check.due("the history", Check.history(loom, 0), "START 7 0, CANCEL 0 0");
    Check.dueIndex(loom, "cancel of no run", () -> loom.cancel(1));
    Check.dueIndex(loom, "cancel of no run", () -> loom.cancel(-1));
    Check.due("work", Check.work(loom, 0), 1);
    Check.due("the history", Check.history(loom, 0), "START 7 0, CANCEL 0 0, FAIL 0 0, TASK 2 0");
    Check.due("the status", Check.status(loom, 0), DurableLoom.CANCELLED);
    Check.dueState(loom, "cancel of a closed run", () -> loom.cancel(0));
    DurableLoom spins = Check.with(Check.GOTO, 0, 0);
    spins.begin(0, 0, 7);
    Check.work(spins, 0);
    Check.due("cancel of a run that is STUCK", spins.cancel(0), true);
  }

  private static void queries() {
    DurableLoom loom = Check.with(Check.SET, 1, 999, Check.ADD, 1, 0, Check.WAIT, 0, 5, Check.SET, 5, 3, Check.WAIT, 0, 0);
    loom.begin(0, 0, 7);
    Check.due("the variables ahead of all TASKs", Check.variables(loom, 0), "0 0 0 0 0 0");
    Check.work(loom, 0);
    Check.due("the variables", Check.variables(loom, 0), "7 6 0 0 0 0");
    loom.signal(0, 0, 8);
    Check.due("the variables behind the last TASK", Check.variables(loom, 0), "7 6 0 0 0 0");
    Check.work(loom, 0);
    Check.due("the variables", Check.variables(loom, 0), "7 6 0 0 0 3");
    Check.dueIndex(loom, "query of no run", () -> loom.query(1, 0));
    Check.dueIndex(loom, "query variable 6", () -> loom.query(0, 6));
    Check.dueIndex(loom, "query variable -1", () -> loom.query(0, -1));
    Check.dueIndex(loom, "plain of no run", () -> loom.plain(-1, 0));
    Check.dueIndex(loom, "plain variable 6", () -> loom.plain(0, 6));
    Check.dueIndex(loom, "plain variable -1", () -> loom.plain(0, -1));
    queriesOfUnsafe();
    queriesWithPatches();
  }

  private static void queriesOfUnsafe() {
    DurableLoom loom = Check.with(Check.TIMER, 9, 0);
    Check.code(loom, 0, Check.TIMER, 8, 0);
    loom.begin(0, 0, 7);
    loom.move(0, 0);
    Check.work(loom, 0);
    loom.move(0, 1);
    Check.dueState(loom, "query of an unsafe version", () -> loom.query(0, 0));
    Check.dueState(loom, "plain of an unsafe version", () -> loom.plain(0, 0));
    Check.dueIndex(loom, "query of an unsafe version, no variable", () -> loom.query(0, 6));
    Check.dueIndex(loom, "plain of an unsafe version, no variable", () -> loom.plain(0, 6));
    loom.move(0, 0);
    Check.due("query of a safe version", loom.query(0, 0), 7);
  }

  private static void queriesWithPatches() {
    DurableLoom loom = Check.with(Check.ACT, 0, 0, Check.WAIT, 0, 0);
    Check.code(loom, 0, Check.PATCH, 1, 2, Check.SET, 1, 5, Check.ACT, 0, 0, Check.WAIT, 0, 0);
    loom.begin(0, 0, 7);
    loom.move(0, 0);
    Check.work(loom, 0);
    Check.due("move", loom.move(0, 1), true);
    Check.due("without the patch", Check.variables(loom, 0), "7 0 0 0 0 0");
    loom.begin(0, 0, 8);
    Check.work(loom, 0);
    Check.due("with the patch", Check.variables(loom, 1), "8 5 0 0 0 0");
  }

  private static void standings() {
    DurableLoom loom = Check.with(Check.END, 0, 0);
    loom.begin(0, 0, 7);
    Check.due("standing, open", loom.standing(0), 10);
    Check.work(loom, 0);
    Check.due("standing, done", loom.standing(0), 31);
    Check.dueIndex(loom, "standing of no run", () -> loom.standing(1));
    Check.dueIndex(loom, "standing of no run", () -> loom.standing(-1));
  }

  /** All kinds of events with their numbers. */
  private static void events() {
    DurableLoom loom = Check.with(Check.PATCH, 9, 0, Check.TAG, 0, 0, Check.TIMER, 100, 0);
    loom.begin(0, 0, 7);
    Check.work(loom, 0);
    Check.due("event START", loom.event(0, 0), 7000);
    Check.due("event PATCH", loom.event(0, 1), 12009000);
    Check.due("event TAG", loom.event(0, 2), 13007000);
    Check.due("event TIMER", loom.event(0, 3), 9100000);
    Check.due("event TASK", loom.event(0, 4), 17001000);
    loom.signal(0, 3, 999);
    Check.due("event SIGNAL", loom.event(0, 5), 4003999);
    loom.pass(100);
    Check.due("event FIRED", loom.event(0, 6), 3003000);
    loom.cancel(0);
    Check.due("event CANCEL", loom.event(0, 7), 7000000);
    Check.dueIndex(loom, "event behind the last", () -> loom.event(0, 8));
    Check.dueIndex(loom, "event -1", () -> loom.event(0, -1));
    Check.dueIndex(loom, "event of no run", () -> loom.event(1, 0));
    Check.dueIndex(loom, "event of no run", () -> loom.event(-1, 0));
  }

  private static void differences() {
    DurableLoom loom = Check.with(Check.GOTO, 0, 0);
    loom.begin(0, 0, 7);
    Check.dueState(loom, "difference of an open run", () -> loom.difference(0));
    Check.due("work", Check.work(loom, 0), -2);
    Check.due("difference", loom.difference(0), -1);
    Check.due("standing", loom.standing(0), 16);
    Check.dueIndex(loom, "difference of no run", () -> loom.difference(1));
    Check.dueIndex(loom, "difference of no run", () -> loom.difference(-1));
    loom.move(0, 0);
    Check.dueState(loom, "difference of a run that was moved", () -> loom.difference(0));
  }

  private static void constants() {
    int[] all = {DurableLoom.OPEN, DurableLoom.DONE, DurableLoom.FAILED, DurableLoom.CANCELLED,
        DurableLoom.CONTINUED, DurableLoom.STOPPED, DurableLoom.STUCK};
    for (int i = 0; i < all.length; i++) {
      Check.due("a constant", all[i], i);
    }
  }
}
