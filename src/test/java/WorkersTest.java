/** Promises 16 to 20: setRate, poll, complete, die, replays. */
public final class WorkersTest {
  public static void main(String[] args) {
    rates();
    tenants();
    firstArrivals();
    holding();
    completing();
    stale();
    dying();
    caches();
    cachesAndMoves();
    statesThatAreKept();
    patchesInCaches();
    cachesKnowMore();
    cachesInTurn();
    effectsInOrder();
    closing();
    sixtyActivities();
    wrongNumbers();
    Check.end();
  }

  private static DurableLoom withRuns(int... tenants) {
    DurableLoom loom = Check.with(Check.WAIT, 0, 0, Check.WAIT, 0, 0, Check.WAIT, 0, 0);
    for (int tenant : tenants) {
      loom.begin(0, tenant, 7);
    }
    return loom;
  }

  private static void rates() {
    DurableLoom loom = withRuns(0, 0, 0, 0, 0, 1);
    Check.dueArgument(loom, "setRate(0)", () -> loom.setRate(0));
    Check.dueArgument(loom, "setRate(11)", () -> loom.setRate(11));
    Check.due("poll", loom.poll(0), 0);
    Check.due("poll of the other tenant", loom.poll(0), 105);
    Check.due("poll", loom.poll(0), 201);
    Check.due("poll", loom.poll(1), 302);
    Check.due("poll above the rate 3", loom.poll(2), -1);
    Check.due("setRate", loom.setRate(4), 3);
    Check.due("poll", loom.poll(2), 403);
    Check.due("poll above the rate 4", loom.poll(2), -1);
    Check.due("setRate", loom.setRate(1), 4);
    Check.due("setRate", loom.setRate(10), 1);
    Check.due("poll", loom.poll(2), 504);
    Check.due("poll without runs", loom.poll(2), -1);
    DurableLoom slow = withRuns(2, 2, 2);
    slow.setRate(1);
    Check.due("poll", slow.poll(0), 0);
    Check.due("poll above the rate 1", slow.poll(0), -1);
    slow.pass(1);
    Check.due("poll in the next tick", slow.poll(0), 101);
    Check.due("poll above the rate 1", slow.poll(0), -1);
  }

  private static void tenants() {
    DurableLoom loom = withRuns(2, 1, 2, 1, 0, 0, 2);
    loom.setRate(10);
    int[] runs = {4, 1, 0, 5, 3, 2, 6};
    for (int i = 0; i < runs.length; i++) {
      Check.due("the tenant with the fewest tasks, the lowest", loom.poll(0), 100 * i + runs[i]);
    }
    Check.due("poll", loom.poll(0), -1);
    // Tasks given in all count, not those in this tick: 2, 2 and 3.
    loom.pass(1);
    loom.begin(0, 2, 7);
    loom.begin(0, 1, 7);
    loom.begin(0, 0, 7);
    loom.begin(0, 0, 7);
    Check.due("poll", loom.poll(0), 709);
    Check.due("poll", loom.poll(0), 808);
    Check.due("poll", loom.poll(0), 910);
    Check.due("poll", loom.poll(0), 1007);
    // A tenant at the rate gives way to one with more tasks.
    DurableLoom rate = withRuns(0, 0, 1, 1);
    rate.setRate(1);
    Check.due("poll", rate.poll(0), 0);
    Check.due("poll", rate.poll(0), 102);
    Check.due("poll", rate.poll(0), -1);
  }

  private static void firstArrivals() {
    DurableLoom loom = withRuns(0, 0, 0);
    Check.workAll(loom);
    loom.pass(1);
    loom.signal(0, 3, 1);
    loom.signal(2, 0, 1);
    loom.signal(1, 0, 1);
    loom.signal(0, 0, 1);
    Check.due("the run whose first arrival came first", loom.complete(loom.poll(0) / 100), 0);
    Check.due("poll", loom.poll(0) % 100, 2);
    Check.due("poll", loom.poll(0) % 100, 1);
    // The first arrival counts, not the last one, nor one that a TASK counts.
    loom.pass(1);
    loom.signal(0, 3, 1);
    loom.begin(0, 0, 7);
    loom.signal(0, 3, 1);
    Check.due("poll", loom.poll(0) % 100, 0);
    Check.due("poll", loom.poll(0) % 100, 3);
  }

  private static void holding() {
    DurableLoom loom = withRuns(0);
    loom.pass(1);
    Check.due("poll", loom.poll(0), 0);
    for (int i = 0; i < 5; i++) {
      Check.due("poll of a run that is held", loom.poll(1), -1);
      loom.pass(1);
    }
    Check.due("poll 5 ticks later", loom.poll(1), 100);
    Check.due("complete of the second", loom.complete(1), 0);
    Check.due("complete of the first", loom.complete(0), -1);
    loom.signal(0, 0, 5);
    Check.due("poll when the task is over", loom.poll(2), 200);
    // A task that is stale holds the run until it is over.
    DurableLoom stale = withRuns(0);
    Check.code(stale, 0, Check.END, 0, 0);
    stale.poll(0);
    stale.move(0, 1);
    Check.due("poll", stale.poll(1), -1);
    Check.due("complete", stale.complete(0), -1);
    Check.due("poll", stale.poll(1), 100);
  }

  private static void completing() {
    DurableLoom loom = Check.with(Check.PAR, 3, 0, Check.WAIT, 0, 0, Check.END, 0, 0, Check.WAIT, 1, 1, Check.TAG, 1, 0);
    loom.begin(0, 0, 7);
    int task = loom.poll(0);
    loom.signal(0, 1, 5);
    Check.due("complete takes what the task knows", loom.complete(task / 100), 0);
    Check.due("the history", Check.history(loom, 0), "START 7 0, SIGNAL 1 5, TASK 1 0");
    Check.due("query", loom.query(0, 1), 0);
    Check.due("poll", loom.poll(0), 100);
    Check.due("complete", loom.complete(1), 1);
    Check.due("the history", Check.history(loom, 0, 3), "TAG 5 0, TASK 2 0");
    Check.due("complete of a task that is over", loom.complete(1), -1);
    Check.due("poll without work", loom.poll(0), -1);
  }

  private static void stale() {
    DurableLoom task = withRuns(0);
    task.poll(0);
    task.pass(5);
    task.poll(1);
    task.complete(0);
    Check.due("stale by a TASK", task.complete(1), -1);
    DurableLoom version = withRuns(0);
    Check.code(version, 0, Check.WAIT, 0, 0);
    version.poll(0);
    version.move(0, 1);
    Check.due("stale by a version", version.complete(0), -1);
    DurableLoom back = withRuns(0);
    Check.code(back, 0, Check.WAIT, 0, 0);
    back.poll(0);
    back.move(0, 1);
    back.move(0, 0);
    Check.due("not stale when the version is the same again", back.complete(0), 0);
    DurableLoom cut = withRuns(0);
    cut.copy(0, 1);
    cut.signal(0, 3, 1);
    cut.poll(0);
    cut.takeOver();
    Check.due("stale by events that were cut", cut.complete(0), -1);
    DurableLoom uncut = withRuns(0);
    uncut.copy(0, 1);
    uncut.poll(0);
    uncut.takeOver();
    Check.due("not stale when nothing was cut", uncut.complete(0), 0);
    DurableLoom arrivals = withRuns(0);
    arrivals.poll(0);
    arrivals.signal(0, 0, 1);
    arrivals.cancel(0);
    Check.due("not stale by arrivals", arrivals.complete(0), 0);
    DurableLoom closed = Check.with(Check.PAR, 3, 0, Check.WAIT, 0, 0, Check.END, 0, 0, Check.CHILD, 1, 0);
    Check.code(closed, 1, Check.WAIT, 0, 0);
    closed.setPolicy(1, 2);
    closed.begin(0, 0, 7);
    Check.work(closed, 0);
    Check.due("poll", closed.poll(0), 101);
    closed.signal(0, 0, 1);
    Check.work(closed, 0);
    Check.due("the child is stopped", Check.status(closed, 1), DurableLoom.STOPPED);
    Check.due("stale by a run that is not open", closed.complete(1), -1);
    DurableLoom setBack = withRuns(0);
    Check.work(setBack, 0);
    setBack.signal(0, 0, 5);
    setBack.poll(0);
    setBack.setBack(0, 0);
    Check.due("stale by a run that was set back", setBack.complete(1), -1);
  }

  private static void dying() {
    DurableLoom loom = withRuns(0, 0, 1);
    loom.setRate(10);
    loom.poll(0);
    loom.poll(1);
    loom.poll(0);
    Check.dueIndex(loom, "die(3)", () -> loom.die(3));
    Check.dueIndex(loom, "die(-1)", () -> loom.die(-1));
    Check.due("die", loom.die(0), 2);
    Check.due("die again", loom.die(0), 0);
    Check.due("complete of a task of a dead worker", loom.complete(0), -1);
    Check.due("complete of another's", loom.complete(1), 0);
    Check.due("what it held is free", loom.poll(2), 300);
    Check.due("die of one with none", loom.die(1), 0);
    Check.due("the dead worker is there again", loom.poll(0), 401);
    Check.due("complete", loom.complete(4), 0);
  }

  private static void caches() {
    DurableLoom loom = withRuns(0, 1);
    Check.due("replays at first", loom.replays(0), 0);
    Check.work(loom, 0);
    Check.due("the first time counts", loom.replays(0), 1);
    Check.work(loom, 0);
    Check.due("for each run", loom.replays(0), 2);
    loom.signal(0, 3, 1);
    Check.work(loom, 0);
    Check.due("it goes on from what it kept", loom.replays(0), 2);
    loom.pass(1);
    loom.signal(0, 3, 1);
    Check.work(loom, 1);
    Check.due("another worker replays", loom.replays(1), 1);
    loom.signal(0, 3, 1);
    Check.work(loom, 0);
    Check.due("the first one has to replay then", loom.replays(0), 3);
    loom.signal(1, 3, 1);
    Check.work(loom, 0);
    Check.due("what it kept of another run", loom.replays(0), 3);
    loom.die(0);
    loom.pass(1);
    loom.signal(1, 3, 1);
    Check.work(loom, 0);
    Check.due("a worker that died forgets", loom.replays(0), 4);
    Check.due("the other one does not", loom.replays(1), 1);
    loom.die(1);
    loom.signal(1, 3, 1);
    Check.work(loom, 0);
    Check.due("nor does this one when the other one dies", loom.replays(0), 4);
    loom.copy(1, 100);
    loom.copy(0, 100);
    loom.takeOver();
    loom.pass(1);
    loom.signal(1, 3, 1);
    Check.work(loom, 0);
    Check.due("nothing was cut", loom.replays(0), 4);
    loom.join();
    loom.signal(1, 3, 1);
    loom.takeOver();
    loom.pass(1);
    loom.signal(1, 3, 1);
    Check.work(loom, 0);
    Check.due("events were cut", loom.replays(0), 5);
    loom.signal(1, 3, 1);
    Check.work(loom, 0);
    Check.due("it goes on from what it kept behind that", loom.replays(0), 5);
    Check.dueIndex(loom, "replays(3)", () -> loom.replays(3));
    Check.dueIndex(loom, "replays(-1)", () -> loom.replays(-1));
  }

  /** A worker that has two runs in turn comes to the same as one that replays each time. */
  private static void statesThatAreKept() {
    // The branches: a child that is joined, one that is raced, one with a handler; 9 is GOTO the wait.
    sameAsReplayed(Check.PAR, 4, 0, Check.WAIT, 0, 0, Check.JOIN, 0, 0, Check.TIMER, 9, 0, Check.WAIT, 1, 1,
        Check.TAG, 1, 0, Check.WAIT, 0, 2, Check.END, 0, 0);
    sameAsReplayed(Check.PAR, 9, 0, Check.RACE, 6, 0, Check.WAIT, 0, 0, Check.WIN, 0, 0, Check.TAG, 0, 0, Check.WAIT, 2, 0,
        Check.PAR, 10, 0, Check.WAIT, 1, 0, Check.WIN, 0, 0, Check.WAIT, 3, 0, Check.TIMER, 8, 0);
    sameAsReplayed(Check.PAR, 4, 0, Check.RACE, 10, 0, Check.WAIT, 1, 0, Check.WIN, 0, 0, Check.PAR, 7, 0, Check.WAIT, 0, 3,
        Check.END, 0, 0, Check.PAR, 9, 0, Check.END, 0, 0, Check.TIMER, 8, 0, Check.PAR, 13, 0, Check.WAIT, 0, 1,
        Check.END, 0, 0, Check.TIMER, 7, 0);
    sameAsReplayed(Check.TRY, 7, 0, Check.SHIELD, 0, 0, Check.SHIELD, 0, 0, Check.WAIT, 0, 0, Check.BARE, 0, 0,
        Check.WAIT, 1, 0, Check.BARE, 0, 0, Check.TAG, 0, 0, Check.WAIT, 0, 0, Check.FAIL, 0, 0);
    sameAsReplayed(Check.COMP, 2, 0, Check.WAIT, 0, 0, Check.COMP, 1, 0, Check.TRY, 6, 0, Check.WAIT, 1, 0,
        Check.SET, 5, 1, Check.UNDO, 0, 0, Check.FAIL, 0, 0);
    sameAsReplayed(Check.PATCH, 3, 1, Check.WAIT, 0, 0, Check.PATCH, 3, 5, Check.TAG, 0, 0, Check.WAIT, 1, 0,
        Check.PATCH, 4, 7, Check.WAIT, 0, 0, Check.FAIL, 0, 0);
    sameAsReplayed(Check.WAIT, 1, 0, Check.WAIT, 1, 1, Check.WAIT, 0, 2, Check.AGAIN, 2, 0);
    sameAsReplayed(Check.TRY, 2, 0, Check.WAIT, 0, 0, Check.WAIT, 1, 0, Check.WAIT, 0, 0, Check.FAIL, 0, 0);
  }

  private static void sameAsReplayed(int... lines) {
    for (int order = 0; order < 8; order++) {
      DurableLoom keeps = Check.with(lines);
      DurableLoom replays = Check.with(lines);
      for (int run = 0; run < 2; run++) {
        keeps.begin(0, 0, 7 + run);
        replays.begin(0, 0, 7 + run);
      }
      for (int i = 0; i < 7; i++) {
        step(keeps, order, i, false);
        step(replays, order, i, true);
      }
      for (int run = 0; run < 2; run++) {
        Check.due("run " + run + " by kept states", Check.history(keeps, run), Check.history(replays, run));
        Check.due("its status", Check.status(keeps, run), Check.status(replays, run));
      }
      Check.due("replays of the one", keeps.replays(0), keeps.runs());
    }
  }

  /** Both runs hear something, and the worker has a task of each. */
  private static void step(DurableLoom loom, int order, int i, boolean forgets) {
    loom.pass(1);
    loom.setRate(10);
    for (int run = 0; run < 2 && i > 0; run++) {
      if (Check.status(loom, run) == DurableLoom.OPEN) {
        if (i == 2 + order % 4 && run == 1) {
          loom.cancel(run);
        } else {
          loom.signal(run, (order >> i % 3 & 1) ^ (i + run) % 2, 10 * i);
        }
      }
    }
    for (int k = 0; k < 4; k++) {
      if (forgets) {
        loom.die(0);
      }
      Check.work(loom, 0);
    }
    for (int kind = 0; kind < 4; kind++) {
      int taken = loom.take(kind);
      if (taken >= 0) {
        loom.answer(taken / 1000, i);
      }
    }
  }

  private static void cachesAndMoves() {
    DurableLoom loom = Check.with(Check.WAIT, 0, 0, Check.WAIT, 0, 0, Check.WAIT, 0, 0);
    Check.code(loom, 0, Check.WAIT, 0, 0, Check.SET, 1, 9, Check.WAIT, 0, 0, Check.WAIT, 0, 0);
    loom.begin(0, 0, 7);
    loom.move(0, 0);
    Check.work(loom, 0);
    loom.move(0, 1);
    loom.signal(0, 0, 1);
    Check.work(loom, 0);
    Check.due("another version is replayed", loom.replays(0), 2);
    loom.move(0, 0);
    loom.move(0, 1);
    loom.signal(0, 0, 2);
    Check.work(loom, 0);
    Check.due("the same version again is not", loom.replays(0), 2);
    Check.due("the variables", Check.variables(loom, 0), "2 9 0 0 0 0");
    DurableLoom dies = withRuns(0);
    Check.work(dies, 0);
    dies.die(0);
    dies.signal(0, 3, 1);
    Check.work(dies, 0);
    Check.due("the only state is forgotten", dies.replays(0), 2);
    DurableLoom stuck = Check.with(Check.WAIT, 0, 0, Check.GOTO, 1, 0);
    stuck.begin(0, 0, 7);
    Check.work(stuck, 0);
    stuck.signal(0, 0, 1);
    Check.due("it spins", Check.work(stuck, 1), -2);
    Check.due("a replay that gets STUCK counts", stuck.replays(1), 1);
    stuck.poll(1);
    Check.due("a stale task replays nothing", stuck.complete(0), -1);
    Check.due("replays", stuck.replays(1), 1);
  }

  /** Behind a take over the worker's state has no patch, as commands were left when it came to PATCH. */
  private static void patchesInCaches() {
    DurableLoom loom = Check.with(Check.ACT, 0, 0, Check.WAIT, 0, 1);
    loom.begin(0, 0, 7);
    Check.work(loom, 0);
    loom.copy(0, 2);
    loom.takeOver();
    Check.due("the command is copied, the TASK is not", Check.history(loom, 0), "START 7 0, ACTIVITY 0 7");
    Check.code(loom, 0, Check.PATCH, 0, 2, Check.SET, 2, 1, Check.ACT, 0, 0, Check.WAIT, 0, 1);
    loom.move(0, 1);
    Check.due("work", Check.work(loom, 0), 0);
    Check.due("the history", Check.history(loom, 0), "START 7 0, ACTIVITY 0 7, TASK 1 0");
    Check.due("without the patch", Check.variables(loom, 0), "7 0 0 0 0 0");
  }

  /**
   * A worker takes an arrival without a patch that was commanded later. A replay finds the patch there, but
   * the worker goes on from what it kept, whatever is asked in between.
   */
  private static void cachesKnowMore() {
    DurableLoom loom = Check.with(Check.WAIT, 0, 0, Check.WAIT, 0, 0, Check.WAIT, 0, 0);
    loom.begin(0, 0, 7);
    Check.work(loom, 0);
    loom.signal(0, 0, 1);
    Check.work(loom, 0);
    Check.code(loom, 0, Check.WAIT, 0, 0, Check.PATCH, 1, 3, Check.SET, 1, 5, Check.WAIT, 0, 0, Check.PATCH, 1, 9,
        Check.TAG, 1, 0, Check.WAIT, 0, 0, Check.TAG, 1, 0, Check.WAIT, 0, 0, Check.TAG, 1, 0, Check.WAIT, 0, 0);
    Check.due("move", loom.move(0, 1), true);
    loom.signal(0, 0, 2);
    Check.due("work without the patch", Check.work(loom, 0), 2);
    Check.due("replays", loom.replays(0), 2);
    Check.due("the history", Check.history(loom, 0, 4), "SIGNAL 0 2, PATCH 1 0, TAG 0 0, TASK 3 0");
    Check.due("a replay finds the patch earlier", loom.unsafe(0, 1), 1);
    loom.signal(0, 0, 3);
    loom.pass(1);
    Check.due("the worker goes on", Check.work(loom, 0), 1);
    Check.due("the history", Check.history(loom, 0, 8), "SIGNAL 0 3, TAG 0 0, TASK 4 0");
    Check.dueState(loom, "query", () -> loom.query(0, 0));
    loom.signal(0, 0, 4);
    Check.due("another worker does not", Check.work(loom, 1), -2);
    Check.due("the difference", loom.difference(0), 6);
    Check.due("move", loom.move(0, 1), false);
    Check.due("the first one does", Check.work(loom, 0), 1);
    Check.due("the history", Check.history(loom, 0, 11), "SIGNAL 0 4, TAG 0 0, TASK 5 0");
    Check.due("without a replay", loom.replays(0), 2);
    loom.die(0);
    loom.pass(1);
    loom.signal(0, 0, 5);
    Check.due("not if it forgot", Check.work(loom, 0), -2);
    Check.due("by a replay", loom.replays(0), 3);
  }

  /** What a worker keeps of many runs with handlers, compensations and branches, completed in turn. */
  private static void cachesInTurn() {
    DurableLoom loom = Check.with(Check.PAR, 8, 0, Check.COMP, 1, 0, Check.TRY, 6, 0, Check.WAIT, 0, 1, Check.COMP, 2, 1,
        Check.GOTO, 2, 0, Check.UNDO, 0, 0, Check.FAIL, 0, 0, Check.TRY, 11, 0, Check.WAIT, 1, 2, Check.FAIL, 0, 0,
        Check.TAG, 2, 0);
    loom.setRate(10);
    for (int run = 0; run < 4; run++) {
      loom.begin(0, run % 3, 10 * run);
    }
    for (int i = 0; i < 4; i++) {
      Check.due("the beginning", Check.work(loom, 0), 0);
    }
    for (int round = 1; round <= 3; round++) {
      loom.pass(1);
      for (int run = 3; run >= 0; run--) {
        loom.signal(run, 0, round);
        Check.due("a signal", Check.work(loom, 0), 0);
      }
    }
    for (int run = 0; run < 4; run++) {
      loom.signal(run, 1, run);
      loom.cancel(run);
      loom.pass(1);
      Check.due("the tag, and the last compensation", Check.work(loom, 0), 2);
      Check.due("the history", Check.history(loom, run, 8), "SIGNAL 1 " + run + ", CANCEL 0 0, TAG " + run
          + " 0, ACTIVITY 2 3, TASK 6 0");
    }
    for (int i = 0; i < 4; i++) {
      int kind = i == 3 ? 1 : 2;
      for (int run = 0; run < 4; run++) {
        int due = i == 3 ? 10 * run : 3 - i;
        int taken = loom.take(kind);
        Check.due("a compensation", taken, 1000 * (4 * i + run) + due);
        loom.answer(taken / 1000, 5);
        loom.pass(1);
        Check.due("the next one, or the end", Check.work(loom, 0), 1);
      }
    }
    for (int run = 0; run < 4; run++) {
      Check.due("it is cancelled", Check.status(loom, run), DurableLoom.CANCELLED);
    }
    Check.due("replays", loom.replays(0), 4);
  }

  private static void effectsInOrder() {
    DurableLoom loom = Check.with(Check.PAR, 4, 0, Check.PAR, 5, 0, Check.CHILD, 3, 0, Check.END, 0, 0,
        Check.ACT, 2, 0, Check.CHILD, 1, 0);
    Check.code(loom, 1, Check.WAIT, 0, 0);
    loom.begin(0, 2, 7);
    Check.due("complete", Check.work(loom, 0), 3);
    Check.due("what comes of it is behind the TASK", Check.history(loom, 0),
        "START 7 0, CHILD 3 7, ACTIVITY 2 7, CHILD 1 7, TASK 1 0, BROKEN 1 0");
    Check.due("the child", Check.history(loom, 1), "START 7 0");
    Check.due("the activity", loom.activity(0), 0);
    loom.pass(1);
    loom.begin(1, 1, 7);
    Check.due("the tenant of the child is the parent's: 1 has fewer", loom.poll(0) % 100, 2);
    Check.due("its order is ahead of BROKEN's", loom.poll(0) % 100, 0);
    Check.due("the child", loom.poll(0) % 100, 1);
  }

  private static void closing() {
    DurableLoom loom = Check.with(Check.PAR, 4, 0, Check.PAR, 5, 0, Check.TIMER, 5, 0, Check.END, 0, 0,
        Check.ACT, 0, 0, Check.TIMER, 6, 0);
    loom.begin(0, 0, 7);
    Check.work(loom, 0);
    loom.pass(5);
    Check.due("done", Check.work(loom, 0), 1);
    Check.due("its activity is over", loom.activity(0), 2);
    loom.pass(5);
    Check.due("its timers are", loom.standing(0), 81);
    // A child that fails, one that is cancelled, and one that is done; a grandchild is stopped with its parent.
    DurableLoom deep = Check.with(Check.PAR, 3, 0, Check.WAIT, 0, 0, Check.END, 0, 0, Check.CHILD, 1, 0);
    Check.code(deep, 1, Check.CHILD, 2, 0);
    Check.code(deep, 2, Check.WAIT, 0, 0);
    deep.setPolicy(1, 2);
    deep.setPolicy(2, 2);
    deep.begin(0, 0, 7);
    deep.begin(2, 0, 7);
    Check.workAll(deep);
    deep.signal(0, 0, 1);
    Check.workAll(deep);
    Check.due("the child", deep.standing(2), 35);
    Check.due("the grandchild", deep.standing(3), 25);
    Check.due("a run that is no child", deep.standing(1), 20);
    Check.due("the parent hears nothing", deep.standing(0), 61);
    // The child's parent is STUCK: it hears.
    DurableLoom stuck = Check.with(Check.PAR, 3, 0, Check.WAIT, 0, 0, Check.GOTO, 2, 0, Check.CHILD, 1, 0);
    Check.code(stuck, 1, Check.WAIT, 0, 0, Check.SET, 0, 44);
    stuck.begin(0, 0, 7);
    stuck.setRate(10);
    Check.workAll(stuck);
    stuck.signal(0, 0, 1);
    Check.due("the parent spins", Check.work(stuck, 0), -2);
    stuck.signal(1, 0, 1);
    Check.workAll(stuck);
    Check.due("RESULT to a run that is STUCK", Check.history(stuck, 0, 3), "SIGNAL 0 1, RESULT 1 44");
  }

  private static void sixtyActivities() {
    DurableLoom loom = Check.with(Check.PAR, 3, 0, Check.PAR, 4, 0, Check.PAR, 5, 0,
        Check.PAR, 6, 0, Check.PAR, 6, 0, Check.ACT, 0, 0, Check.WAIT, 0, 0);
    // 0 is a parent of 1, 2, 3, and so on: each branch that comes to ACT commands one.
    loom.setRate(10);
    int run = 0;
    int made = 0;
    for (int i = 0; i < 30 && made < 60; i++) {
      run = loom.begin(0, i % 3, i);
      loom.pass(1);
      Check.due("complete", Check.work(loom, 0) > 0, true);
      for (int e = 0; e < Check.size(loom, run); e++) {
        made += loom.event(run, e) / 1000000 == 8 ? 1 : 0;
      }
    }
    int failed = 0;
    for (int e = 0; e < Check.size(loom, run); e++) {
      failed += loom.event(run, e) / 1000000 == 2 ? 1 : 0;
    }
    Check.due("FAILED in place of activities above 60", failed, made - 60);
    Check.due("the 60th activity", loom.activity(59) / 100, run);
    Check.dueIndex(loom, "the 61st", () -> loom.activity(60));
    int last = loom.begin(0, 0, 5);
    loom.pass(1);
    for (int i = 0; i < 3 && Check.size(loom, last) == 1; i++) {
      Check.work(loom, 0);
    }
    Check.due("all of the next run", Check.history(loom, last).contains("TASK 1 0, FAILED 1 0, FAILED 2 0"), true);
    Check.dueIndex(loom, "still the 61st", () -> loom.activity(60));
  }

  private static void wrongNumbers() {
    DurableLoom loom = withRuns(0);
    Check.dueIndex(loom, "poll(3)", () -> loom.poll(3));
    Check.dueIndex(loom, "poll(-1)", () -> loom.poll(-1));
    Check.dueIndex(loom, "complete(0)", () -> loom.complete(0));
    Check.dueIndex(loom, "complete(-1)", () -> loom.complete(-1));
    Check.due("poll", loom.poll(0), 0);
    Check.dueIndex(loom, "complete(1)", () -> loom.complete(1));
    Check.due("complete", loom.complete(0), 0);
  }
}
