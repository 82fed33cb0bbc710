/** How histories are met again: STUCK runs and their difference, patches, cancelling (promises 9, 14, 18, 27, 28). */
public final class HistoriesTest {
  public static void main(String[] args) {
    otherCommands();
    missingCommands();
    leftCommands();
    commandsBehind();
    patches();
    patchNumbers();
    patchBehindTask();
    stuckRuns();
    untakenArrivals();
    cancelling();
    shields();
    handlersOfCancelled();
    dropsOfAll();
    cancelledSaga();
    Check.end();
  }

  /** A run of the version 0 that has worked once, moved to the version 1, with a signal, and worked again. */
  private static DurableLoom moved(int[] first, int[] second) {
    DurableLoom loom = Check.with(first);
    loom.begin(0, 0, 7);
    Check.work(loom, 0);
    Check.code(loom, 0, second);
    loom.signal(0, 3, 1);
    loom.move(0, 1);
    return loom;
  }

  private static void stuckAt(String what, int[] first, int[] second, int difference) {
    DurableLoom loom = moved(first, second);
    Check.due(what + ": unsafe", loom.unsafe(0, 1), 1);
    Check.due(what + ": unsafe by its own", loom.unsafe(0, 0), 0);
    String before = Check.history(loom, 0);
    Check.due(what + ": move", loom.move(0, 1), false);
    Check.due(what + ": work", Check.work(loom, 0), -2);
    Check.due(what + ": status", Check.status(loom, 0), DurableLoom.STUCK);
    Check.due(what + ": difference", loom.difference(0), difference);
    Check.due(what + ": history", Check.history(loom, 0), before);
    Check.due(what + ": unsafe counts open runs", loom.unsafe(0, 1), 0);
  }

  private static void otherCommands() {
    int[] first = {Check.PAR, 3, 0, Check.TIMER, 9, 0, Check.END, 0, 0, Check.ACT, 1, 0};
    stuckAt("another x", first, new int[] {Check.PAR, 3, 0, Check.TIMER, 8, 0, Check.END, 0, 0, Check.ACT, 1, 0}, 1);
    stuckAt("another y", first, new int[] {Check.PAR, 3, 0, Check.TIMER, 9, 0, Check.END, 0, 0, Check.ACT, 1, 1}, 2);
    stuckAt("another kind", first, new int[] {Check.PAR, 3, 0, Check.CHILD, 1, 0, Check.END, 0, 0, Check.ACT, 1, 0}, 1);
    stuckAt("another order", first, new int[] {Check.PAR, 2, 0, Check.ACT, 1, 0, Check.TIMER, 9, 0}, 1);
  }

  private static void missingCommands() {
    int[] first = {Check.TIMER, 9, 0};
    stuckAt("a command more", first, new int[] {Check.PAR, 3, 0, Check.TIMER, 9, 0, Check.END, 0, 0, Check.ACT, 1, 0}, 2);
    stuckAt("the end", new int[] {Check.WAIT, 0, 0}, new int[] {Check.END, 0, 0}, 1);
    // The second arrival is the one that would command more: the TASK that counts it is the second.
    DurableLoom loom = Check.with(Check.WAIT, 0, 0, Check.WAIT, 0, 0);
    loom.begin(0, 0, 7);
    Check.work(loom, 0);
    loom.signal(0, 0, 1);
    Check.work(loom, 0);
    Check.code(loom, 0, Check.WAIT, 0, 0, Check.TIMER, 1, 0);
    Check.due("unsafe", loom.unsafe(0, 1), 1);
    loom.move(0, 1);
    loom.signal(0, 0, 1);
    Check.work(loom, 0);
    Check.due("the first TASK that counts the arrival", loom.difference(0), 3);
  }

  private static void leftCommands() {
    int[] first = {Check.PAR, 3, 0, Check.TIMER, 9, 0, Check.END, 0, 0, Check.ACT, 1, 0};
    stuckAt("commands that are not met", first, new int[] {Check.WAIT, 0, 0}, 1);
    stuckAt("one command that is not met", first, new int[] {Check.TIMER, 9, 0}, 2);
  }

  /** An arrival of the first TASK can meet a command of the second one, as its event is next. */
  private static void commandsBehind() {
    DurableLoom loom = Check.with(Check.WAIT, 0, 0, Check.TIMER, 9, 0);
    loom.begin(0, 0, 7);
    Check.work(loom, 0);
    loom.signal(0, 0, 1);
    Check.work(loom, 0);
    Check.due("the history", Check.history(loom, 0), "START 7 0, TASK 1 0, SIGNAL 0 1, TIMER 9 0, TASK 2 0");
    Check.code(loom, 0, Check.TIMER, 9, 0);
    Check.due("unsafe", loom.unsafe(0, 1), 0);
    Check.due("move", loom.move(0, 1), true);
  }

  private static void patches() {
    int[] old = {Check.ACT, 0, 0, Check.WAIT, 0, 0};
    int[] patched = {Check.PATCH, 4, 3, Check.TIMER, 1, 0, Check.GOTO, 4, 0, Check.ACT, 0, 0, Check.PATCH, 4, 6,
        Check.TAG, 0, 0, Check.PATCH, 5, 8, Check.TAG, 0, 0, Check.WAIT, 0, 0};
    DurableLoom loom = Check.with(old);
    loom.begin(0, 0, 7);
    Check.work(loom, 0);
    Check.code(loom, 0, patched);
    Check.due("a patch makes it safe", loom.move(0, 1), true);
    loom.take(0);
    loom.answer(0, 9);
    Check.work(loom, 0);
    Check.due("what comes behind gets the patches", Check.history(loom, 0, 3),
        "ANSWER 1 9, PATCH 4 0, TAG 9 0, PATCH 5 0, TAG 9 0, TASK 2 0");
    loom.begin(0, 0, 8);
    Check.work(loom, 0);
    Check.due("a new run gets the patch", Check.history(loom, 1), "START 8 0, PATCH 4 0, TIMER 1 0, TASK 1 0");
    loom.pass(1);
    Check.work(loom, 0);
    Check.due("it has it then", Check.history(loom, 1, 4), "FIRED 2 0, TAG 8 0, PATCH 5 0, TAG 8 0, TASK 2 0");
    Check.due("query", loom.query(1, 0), 8);
    Check.due("unsafe by the old", loom.unsafe(0, 0), 2);
  }

  /** The next command event is another PATCH: that of this number is not got. */
  private static void patchNumbers() {
    DurableLoom loom = Check.with(Check.PATCH, 1, 1, Check.WAIT, 0, 0);
    loom.begin(0, 0, 7);
    Check.work(loom, 0);
    Check.code(loom, 0, Check.PATCH, 2, 2, Check.SET, 1, 5, Check.PATCH, 1, 4, Check.SET, 2, 6, Check.WAIT, 0, 0);
    Check.due("move", loom.move(0, 1), true);
    Check.due("the variables", Check.variables(loom, 0), "7 0 6 0 0 0");
    Check.code(loom, 0, Check.WAIT, 0, 0);
    Check.due("move to a code without it", loom.move(0, 2), false);
  }

  /** A patch that an arrival met in a TASK is not got by one that no TASK counts when a command is left. */
  private static void patchBehindTask() {
    DurableLoom loom = Check.with(Check.WAIT, 0, 0, Check.WAIT, 0, 0);
    loom.begin(0, 0, 7);
    Check.work(loom, 0);
    Check.code(loom, 0, Check.PATCH, 0, 1, Check.WAIT, 0, 0, Check.PATCH, 0, 4, Check.SET, 1, 5, Check.WAIT, 0, 0);
    Check.due("move", loom.move(0, 1), true);
    loom.signal(0, 0, 3);
    Check.due("work", Check.work(loom, 0), 1);
    Check.due("the variables", Check.variables(loom, 0), "3 5 0 0 0 0");
    Check.due("the history", Check.history(loom, 0), "START 7 0, TASK 1 0, SIGNAL 0 3, PATCH 0 0, TASK 2 0");
  }

  private static void stuckRuns() {
    DurableLoom loom = Check.with(Check.PAR, 3, 0, Check.ACT, 0, 0, Check.END, 0, 0, Check.TIMER, 2, 0,
        Check.GOTO, 4, 0);
    loom.begin(0, 0, 7);
    Check.work(loom, 0);
    loom.take(0);
    loom.pass(2);
    Check.due("the run spins", Check.work(loom, 0), -2);
    Check.due("its activity is not over", loom.activity(0), 11);
    Check.due("answer", loom.answer(0, 5), true);
    Check.due("cancel", loom.cancel(0), true);
    Check.due("signal", loom.signal(0, 0, 5), 7);
    Check.due("arrivals come to it", Check.history(loom, 0, 4), "FIRED 2 0, ANSWER 1 5, CANCEL 0 0, SIGNAL 0 5");
    Check.due("no task is given", loom.poll(0), -1);
    Check.code(loom, 0, Check.PAR, 3, 0, Check.ACT, 0, 0, Check.END, 0, 0, Check.TIMER, 2, 0);
    Check.due("move", loom.move(0, 1), true);
    Check.due("it is open", Check.status(loom, 0), DurableLoom.OPEN);
    Check.due("work", Check.work(loom, 0), 1);
    Check.due("done", Check.history(loom, 0, 8), "DONE 5 0, TASK 5 0");
  }

  /** Arrivals behind that by which the run is over are not taken, though the TASK counts them. */
  private static void untakenArrivals() {
    DurableLoom loom = Check.with(Check.WAIT, 0, 1);
    loom.begin(0, 0, 7);
    loom.signal(0, 0, 5);
    loom.signal(0, 0, 6);
    Check.work(loom, 0);
    Check.due("the history", Check.history(loom, 0), "START 7 0, SIGNAL 0 5, SIGNAL 0 6, DONE 7 0, TASK 3 0");
    Check.due("the variables", Check.variables(loom, 0), "7 5 0 0 0 0");
  }

  private static void cancelling() {
    DurableLoom loom = Check.with(Check.PAR, 3, 0, Check.TIMER, 9, 0, Check.END, 0, 0, Check.TRY, 5, 0,
        Check.ACT, 0, 0, Check.CHILD, 1, 0);
    Check.code(loom, 1, Check.TRY, 2, 0, Check.TIMER, 9, 0, Check.SET, 0, 33);
    loom.begin(0, 0, 7);
    Check.work(loom, 0);
    loom.cancel(0);
    Check.due("work", Check.work(loom, 0), 2);
    Check.due("the branch 0 fails the run first", Check.history(loom, 0, 4), "CANCEL 0 0, DROP 1 0, FAIL 0 0, TASK 2 0");
    Check.due("the status", Check.status(loom, 0), DurableLoom.CANCELLED);
    DurableLoom failed = Check.with(Check.FAIL, 0, 0);
    failed.begin(0, 0, 7);
    Check.work(failed, 0);
    Check.due("FAILED without CANCEL", Check.status(failed, 0), DurableLoom.FAILED);
    DurableLoom untaken = Check.with(Check.FAIL, 0, 0);
    untaken.begin(0, 0, 7);
    untaken.cancel(0);
    Check.work(untaken, 0);
    Check.due("FAILED with CANCEL that was not taken", Check.status(untaken, 0), DurableLoom.FAILED);
    DurableLoom next = Check.with(Check.ZERO, 0, 2, Check.WAIT, 0, 0, Check.FAIL, 0, 0);
    next.begin(0, 0, 7);
    next.begin(0, 0, 0);
    next.cancel(0);
    Check.work(next, 0);
    Check.work(next, 0);
    Check.due("the run that was cancelled", Check.status(next, 0), DurableLoom.CANCELLED);
    Check.due("the run behind it", Check.status(next, 1), DurableLoom.FAILED);
    DurableLoom done = Check.with(Check.TRY, 2, 0, Check.WAIT, 0, 0, Check.END, 0, 0);
    done.begin(0, 0, 7);
    done.cancel(0);
    Check.work(done, 0);
    Check.due("DONE in spite of CANCEL", Check.status(done, 0), DurableLoom.DONE);
  }

  private static void shields() {
    int[] lines = {Check.TRY, 8, 0, Check.SHIELD, 0, 0, Check.SHIELD, 0, 0, Check.WAIT, 0, 1, Check.BARE, 0, 0,
        Check.WAIT, 0, 2, Check.BARE, 0, 0, Check.WAIT, 0, 3, Check.TAG, 2, 0, Check.WAIT, 0, 4};
    DurableLoom loom = Check.with(lines);
    loom.begin(0, 0, 7);
    Check.work(loom, 0);
    loom.cancel(0);
    Check.due("two shields", Check.work(loom, 0), 0);
    loom.signal(0, 0, 11);
    Check.due("one shield", Check.work(loom, 0), 0);
    loom.signal(0, 0, 22);
    loom.pass(1);
    Check.due("none: it fails behind BARE", Check.work(loom, 0), 1);
    Check.due("its handler", Check.history(loom, 0, 7), "TAG 22 0, TASK 4 0");
    loom.signal(0, 0, 33);
    Check.work(loom, 0);
    Check.due("it is cancelled once", Check.variables(loom, 0), "7 11 22 0 33 0");
    DurableLoom bare = Check.with(Check.BARE, 0, 0, Check.SHIELD, 0, 0, Check.BARE, 0, 0, Check.WAIT, 0, 1);
    bare.begin(0, 0, 7);
    bare.cancel(0);
    Check.due("BARE without a shield takes none", Check.work(bare, 0), 1);
    Check.due("no shield any more", Check.status(bare, 0), DurableLoom.CANCELLED);
    DurableLoom once = Check.with(Check.TRY, 3, 0, Check.SHIELD, 0, 0, Check.BARE, 0, 0, Check.WAIT, 0, 1,
        Check.SHIELD, 0, 0, Check.BARE, 0, 0, Check.WAIT, 0, 1);
    DurableLoom shielded = Check.with(Check.TRY, 4, 0, Check.SHIELD, 0, 0, Check.WAIT, 0, 1, Check.BARE, 0, 0,
        Check.SHIELD, 0, 0, Check.BARE, 0, 0, Check.WAIT, 0, 1);
    once.begin(0, 0, 7);
    once.signal(0, 0, 1);
    Check.due("shields without CANCEL", Check.work(once, 0), 0);
    shielded.begin(0, 0, 7);
    shielded.cancel(0);
    shielded.signal(0, 0, 1);
    Check.due("cancelled once, with shields behind it", Check.work(shielded, 0), 0);
    Check.due("it waits on", Check.status(shielded, 0), DurableLoom.OPEN);
    DurableLoom later = Check.with(Check.SHIELD, 0, 0, Check.WAIT, 0, 1, Check.PAR, 4, 0, Check.WAIT, 0, 2,
        Check.TIMER, 9, 0);
    later.begin(0, 0, 7);
    later.cancel(0);
    later.signal(0, 0, 1);
    Check.due("a branch that begins later is not cancelled", Check.work(later, 0), 1);
    later.signal(0, 0, 2);
    Check.due("and the other one is not without BARE", Check.work(later, 0), 1);
    Check.due("the history", Check.history(later, 0, 5), "SIGNAL 0 2, TIMER 9 0, TASK 4 0");
  }

  private static void handlersOfCancelled() {
    // Each of three branches is cancelled, by rising numbers, and goes on with its handler.
    DurableLoom loom = Check.with(Check.TRY, 6, 0, Check.PAR, 3, 0, Check.TIMER, 11, 0, Check.TRY, 7, 0,
        Check.TIMER, 12, 0, Check.END, 0, 0, Check.WAIT, 0, 0, Check.ACT, 1, 0);
    loom.begin(0, 0, 7);
    Check.work(loom, 0);
    Check.due("the history", Check.history(loom, 0, 1), "TIMER 11 0, TIMER 12 0, TASK 1 0");
    loom.cancel(0);
    Check.work(loom, 0);
    Check.due("the handlers behind all DROPs", Check.history(loom, 0, 4),
        "CANCEL 0 0, DROP 1 0, DROP 2 0, ACTIVITY 1 7, TASK 2 0");
    loom.pass(20);
    Check.due("dropped timers do not fire", Check.size(loom, 0), 9);
  }

  private static void dropsOfAll() {
    DurableLoom loom = Check.with(Check.TRY, 5, 0, Check.PAR, 6, 0, Check.PAR, 8, 0, Check.ACT, 0, 0, Check.END, 0, 0,
        Check.WAIT, 0, 0, Check.TRY, 5, 0, Check.TIMER, 3, 0, Check.TRY, 5, 0, Check.CHILD, 1, 0);
    Check.code(loom, 1, Check.WAIT, 0, 0);
    loom.begin(0, 0, 7);
    Check.work(loom, 0);
    loom.setRate(10);
    loom.take(0);
    loom.cancel(0);
    int task = loom.poll(0);
    Check.due("the child's task is first", task, 101);
    Check.due("the parent's", loom.complete(loom.poll(1) / 100), 3);
    Check.due("the child is cancelled", Check.history(loom, 1), "START 7 0, CANCEL 0 0");
    Check.due("the activity is over", loom.activity(0), 12);
    Check.due("answer", loom.answer(0, 1), false);
    Check.workAll(loom);
    loom.complete(task / 100);
    loom.pass(5);
    Check.workAll(loom);
    Check.due("the child", Check.status(loom, 1), DurableLoom.CANCELLED);
    Check.due("the parent does not hear", Check.history(loom, 0, 5),
        "CANCEL 0 0, DROP 1 0, DROP 2 0, DROP 3 0, TASK 2 0");
  }

  private static void cancelledSaga() {
    DurableLoom loom = Check.with(Check.TRY, 5, 0, Check.COMP, 1, 0, Check.COMP, 2, 0, Check.UNDO, 0, 0, Check.END, 0, 0,
        Check.UNDO, 0, 0, Check.FAIL, 0, 0);
    loom.begin(0, 0, 7);
    Check.work(loom, 0);
    loom.cancel(0);
    Check.work(loom, 0);
    Check.due("UNDO that is cancelled", Check.history(loom, 0, 3), "CANCEL 0 0, DROP 1 0, ACTIVITY 1 7, TASK 2 0");
    loom.take(1);
    loom.answer(1, 0);
    Check.work(loom, 0);
    Check.due("the run", Check.history(loom, 0, 7), "ANSWER 5 0, FAIL 0 0, TASK 3 0");
    Check.due("its status", Check.status(loom, 0), DurableLoom.CANCELLED);
  }
}
