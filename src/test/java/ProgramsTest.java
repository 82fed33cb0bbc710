/** What the lines of a program do (Terms: Programs), seen by promises 10, 12, 13, 18. */
public final class ProgramsTest {
  public static void main(String[] args) {
    values();
    waits();
    ways();
    branches();
    lowestFirst();
    joins();
    races();
    parentsWait();
    droppedBranches();
    belowThroughEnded();
    othersAreLeft();
    branchesBeginAnew();
    handlers();
    sagas();
    endings();
    now();
    tags();
    sixtyLines();
    twelveBranches();
    Check.end();
  }

  /** Begins a run with the input 7 and lets it work once; returns its history behind START. */
  private static String once(int... lines) {
    DurableLoom loom = Check.with(lines);
    loom.begin(0, 0, 7);
    Check.work(loom, 0);
    return Check.history(loom, 0, 1);
  }

  private static void values() {
    Check.due("SET", once(Check.SET, 0, 999), "DONE 999 0, TASK 1 0");
    Check.due("ADD", once(Check.SET, 1, 998, Check.ADD, 0, 1), "DONE 5 0, TASK 1 0");
    Check.due("ADD to itself", once(Check.ADD, 0, 0), "DONE 14 0, TASK 1 0");
    Check.due("the variables at first", once(Check.ADD, 0, 5), "DONE 7 0, TASK 1 0");
  }

  private static void waits() {
    DurableLoom loom = Check.with(Check.ACT, 3, 0, Check.TIMER, 2, 0, Check.WAIT, 2, 4, Check.CHILD, 1, 4);
    Check.code(loom, 1, Check.SET, 1, 30, Check.ADD, 0, 1);
    loom.setRate(10);
    loom.begin(0, 0, 7);
    Check.work(loom, 0);
    Check.due("take", loom.take(3), 7);
    loom.answer(0, 9);
    Check.work(loom, 0);
    loom.pass(2);
    loom.setRate(10);
    Check.work(loom, 0);
    loom.signal(0, 2, 20);
    Check.workAll(loom);
    Check.due("a run that waits for each", Check.history(loom, 0), "START 7 0, ACTIVITY 3 7, TASK 1 0, ANSWER 1 9, "
        + "TIMER 2 0, TASK 2 0, FIRED 4 0, TASK 3 0, SIGNAL 2 20, CHILD 1 20, TASK 4 0, RESULT 9 50, DONE 9 0, TASK 5 0");
    Check.due("the variables", Check.variables(loom, 0), "9 0 0 0 50 0");
    Check.due("the child", Check.history(loom, 1), "START 20 0, DONE 50 0, TASK 1 0");
  }

  private static void ways() {
    Check.due("ZERO of 0", once(Check.ZERO, 1, 2, Check.SET, 0, 1, Check.ADD, 0, 0), "DONE 14 0, TASK 1 0");
    Check.due("ZERO of another", once(Check.ZERO, 0, 2, Check.SET, 0, 1, Check.ADD, 0, 0), "DONE 2 0, TASK 1 0");
    Check.due("GOTO", once(Check.GOTO, 2, 0, Check.SET, 0, 1, Check.ADD, 0, 0), "DONE 14 0, TASK 1 0");
    Check.due("GOTO no line", once(Check.GOTO, 23, 0, Check.SET, 0, 1), "DONE 7 0, TASK 1 0");
    Check.due("GOTO behind the last line", once(Check.GOTO, 2, 0, Check.SET, 0, 1), "DONE 7 0, TASK 1 0");
    Check.due("ZERO to no line", once(Check.ZERO, 1, 23, Check.SET, 0, 1), "DONE 7 0, TASK 1 0");
    Check.due("a handler at no line", once(Check.TRY, 23, 0, Check.FAIL, 0, 0, Check.SET, 0, 1), "DONE 7 0, TASK 1 0");
    Check.due("a branch at no line", once(Check.PAR, 23, 0, Check.JOIN, 0, 0), "DONE 7 0, TASK 1 0");
  }

  private static void branches() {
    Check.due("PAR", once(Check.PAR, 2, 0, Check.TIMER, 1, 0, Check.ACT, 0, 0), "TIMER 1 0, ACTIVITY 0 7, TASK 1 0");
    Check.due("the branch 0 ends first", once(Check.PAR, 2, 0, Check.END, 0, 0, Check.ACT, 0, 0), "DONE 7 0, TASK 1 0");
    DurableLoom loom = Check.with(Check.PAR, 3, 0, Check.WAIT, 0, 0, Check.END, 0, 0, Check.ACT, 0, 0);
    loom.begin(0, 0, 7);
    Check.work(loom, 0);
    loom.take(0);
    loom.signal(0, 0, 8);
    Check.work(loom, 0);
    Check.due("done, with another branch there", Check.history(loom, 0, 3), "SIGNAL 0 8, DONE 8 0, TASK 2 0");
    Check.due("the activity of that branch", loom.activity(0), 12);
  }

  /** Both branches wait for the same name: the lower one gets the signal, and goes on first. */
  private static void lowestFirst() {
    int[] lines = {Check.PAR, 3, 0, Check.WAIT, 0, 1, Check.TIMER, 5, 0, Check.WAIT, 0, 2, Check.TIMER, 6, 0};
    DurableLoom loom = Check.with(lines);
    loom.begin(0, 0, 7);
    Check.work(loom, 0);
    loom.signal(0, 0, 11);
    loom.signal(0, 0, 22);
    Check.work(loom, 0);
    Check.due("the lower branch first", Check.history(loom, 0, 4), "TIMER 5 0, TIMER 6 0, TASK 3 0");
    Check.due("the variables", Check.variables(loom, 0), "7 11 22 0 0 0");
    DurableLoom early = Check.with(lines);
    early.begin(0, 0, 7);
    early.signal(0, 0, 11);
    Check.work(early, 0);
    Check.due("a queue that fills", Check.history(early, 0, 2), "TIMER 5 0, TASK 2 0");
  }

  private static void joins() {
    Check.due("JOIN of nothing", once(Check.JOIN, 0, 0, Check.ADD, 0, 0), "DONE 14 0, TASK 1 0");
    // 0 waits for 1, which ends while its own child 2 waits on: 0 goes on all the same.
    DurableLoom loom = Check.with(Check.PAR, 3, 0, Check.JOIN, 0, 0, Check.TIMER, 9, 0,
        Check.PAR, 6, 0, Check.WAIT, 0, 1, Check.END, 0, 0, Check.WAIT, 1, 2);
    loom.begin(0, 0, 7);
    Check.due("JOIN waits", Check.work(loom, 0), 0);
    loom.signal(0, 0, 1);
    Check.due("JOIN goes on", Check.work(loom, 0), 1);
    Check.due("the timer behind JOIN", Check.history(loom, 0, 3), "TIMER 9 0, TASK 2 0");
    DurableLoom two = Check.with(Check.PAR, 4, 0, Check.PAR, 5, 0, Check.JOIN, 0, 0, Check.END, 0, 0,
        Check.WAIT, 0, 1, Check.WAIT, 1, 2);
    two.begin(0, 0, 7);
    two.signal(0, 1, 5);
    Check.due("JOIN of two, one there", Check.work(two, 0), 0);
    two.signal(0, 0, 5);
    Check.work(two, 0);
    two.signal(0, 1, 5);
    Check.work(two, 0);
    Check.due("JOIN of two", Check.status(two, 0), DurableLoom.DONE);
  }

  private static void races() {
    int[] lines = {Check.RACE, 4, 0, Check.TIMER, 5, 0, Check.WIN, 0, 0, Check.END, 0, 0,
        Check.ACT, 1, 0, Check.WIN, 0, 0, Check.SET, 0, 99};
    DurableLoom child = Check.with(lines);
    child.begin(0, 0, 7);
    Check.work(child, 0);
    Check.due("RACE", Check.history(child, 0, 1), "TIMER 5 0, ACTIVITY 1 7, TASK 1 0");
    child.take(1);
    child.answer(0, 8);
    Check.work(child, 0);
    Check.due("the child wins", Check.history(child, 0, 4), "ANSWER 2 8, DROP 1 0, DONE 99 0, TASK 2 0");
    DurableLoom parent = Check.with(lines);
    parent.begin(0, 0, 7);
    Check.work(parent, 0);
    parent.pass(5);
    Check.work(parent, 0);
    Check.due("the parent wins", Check.history(parent, 0, 4), "FIRED 1 0, DROP 2 0, DONE 7 0, TASK 2 0");
    Check.due("the activity is dropped", parent.activity(0), 2);
    Check.due("WIN without a rival", once(Check.WIN, 0, 0, Check.ADD, 0, 0), "DONE 14 0, TASK 1 0");
    // The first rival is none any more: its WIN is gone by, and it ends.
    DurableLoom twice = Check.with(Check.RACE, 4, 0, Check.RACE, 7, 0, Check.TIMER, 9, 0, Check.END, 0, 0,
        Check.WAIT, 0, 1, Check.WIN, 0, 0, Check.END, 0, 0, Check.WAIT, 1, 1, Check.WIN, 0, 0, Check.SET, 0, 55);
    twice.begin(0, 0, 7);
    Check.work(twice, 0);
    twice.signal(0, 0, 1);
    Check.due("WIN of a rival that was lost", Check.work(twice, 0), 0);
    twice.signal(0, 1, 2);
    Check.work(twice, 0);
    Check.due("WIN of the rival", Check.history(twice, 0, 5), "SIGNAL 1 2, DROP 1 0, DONE 55 0, TASK 3 0");
  }

  /** A parent that waits for a signal, and one at JOIN, go on behind the child's WIN. */
  private static void parentsWait() {
    DurableLoom signal = Check.with(Check.RACE, 3, 0, Check.WAIT, 0, 1, Check.END, 0, 0,
        Check.TIMER, 1, 0, Check.WIN, 0, 0, Check.TIMER, 7, 0, Check.WAIT, 0, 2);
    signal.begin(0, 0, 7);
    Check.work(signal, 0);
    signal.pass(1);
    Check.work(signal, 0);
    Check.due("no DROP of a WAIT", Check.history(signal, 0, 3), "FIRED 1 0, TIMER 7 0, TASK 2 0");
    DurableLoom join = Check.with(Check.RACE, 3, 0, Check.JOIN, 0, 0, Check.END, 0, 0,
        Check.TIMER, 1, 0, Check.WIN, 0, 0, Check.TIMER, 7, 0);
    join.begin(0, 0, 7);
    Check.work(join, 0);
    join.pass(1);
    Check.work(join, 0);
    Check.due("a parent at JOIN", Check.history(join, 0, 3), "FIRED 1 0, TIMER 7 0, TASK 2 0");
  }

  /** 0 races 1, which has the branches 2 and 3 below it; what they wait for is dropped in order. */
  private static void droppedBranches() {
    DurableLoom loom = Check.with(Check.RACE, 5, 0, Check.WAIT, 0, 1, Check.WIN, 0, 0, Check.TIMER, 50, 0,
        Check.END, 0, 0, Check.PAR, 9, 0, Check.PAR, 10, 0, Check.TIMER, 11, 0, Check.END, 0, 0,
        Check.ACT, 0, 0, Check.TIMER, 13, 0);
    loom.begin(0, 0, 7);
    Check.work(loom, 0);
    Check.due("the branches", Check.history(loom, 0, 1), "TIMER 11 0, ACTIVITY 0 7, TIMER 13 0, TASK 1 0");
    loom.signal(0, 0, 1);
    Check.work(loom, 0);
    Check.due("dropped by rising numbers", Check.history(loom, 0, 5),
        "SIGNAL 0 1, DROP 1 0, DROP 2 0, DROP 3 0, TIMER 50 0, TASK 2 0");
    loom.pass(20);
    Check.due("no timer of them fires", Check.size(loom, 0), 11);
    // 1 ends, but 2, which it began, is still below 0's rival? The rival is gone: nothing is dropped.
    DurableLoom gone = Check.with(Check.RACE, 4, 0, Check.WAIT, 0, 1, Check.WIN, 0, 0, Check.TIMER, 50, 0,
        Check.PAR, 6, 0, Check.END, 0, 0, Check.TIMER, 13, 0);
    gone.begin(0, 0, 7);
    Check.work(gone, 0);
    gone.signal(0, 0, 1);
    Check.work(gone, 0);
    Check.due("a rival that is gone", Check.history(gone, 0, 3), "SIGNAL 0 1, TIMER 50 0, TASK 2 0");
    // 1 wins against 0: 1 is dropped with 2 below it, after what 0 waits for.
    DurableLoom won = Check.with(Check.RACE, 3, 0, Check.TIMER, 50, 0, Check.END, 0, 0,
        Check.PAR, 7, 0, Check.WAIT, 0, 1, Check.WIN, 0, 0, Check.END, 0, 0, Check.TIMER, 13, 0);
    won.begin(0, 0, 7);
    Check.work(won, 0);
    won.signal(0, 0, 1);
    Check.work(won, 0);
    Check.due("the winner's own branches", Check.history(won, 0, 4),
        "SIGNAL 0 1, DROP 1 0, DROP 2 0, DONE 7 0, TASK 2 0");
  }

  /** 1 begins 2, which begins 3 and ends: 3 is below 1 all the same, 4 is not. */
  private static void belowThroughEnded() {
    DurableLoom loom = Check.with(Check.RACE, 5, 0, Check.PAR, 12, 0, Check.WAIT, 0, 1, Check.WIN, 0, 0, Check.WAIT, 0, 1,
        Check.PAR, 8, 0, Check.WAIT, 1, 1, Check.END, 0, 0, Check.PAR, 10, 0, Check.END, 0, 0,
        Check.TIMER, 30, 0, Check.END, 0, 0, Check.TIMER, 40, 0);
    loom.begin(0, 0, 7);
    Check.work(loom, 0);
    Check.due("the timers", Check.history(loom, 0, 1), "TIMER 40 0, TIMER 30 0, TASK 1 0");
    loom.signal(0, 0, 1);
    Check.work(loom, 0);
    Check.due("dropped through one that has ended", Check.history(loom, 0, 4), "SIGNAL 0 1, DROP 2 0, TASK 2 0");
  }

  /** DROP ends what one event has commanded, and nothing else. */
  private static void othersAreLeft() {
    int[] commands = {Check.ACT, Check.TIMER, Check.CHILD};
    for (int command : commands) {
      DurableLoom loom = Check.with(Check.PAR, 6, 0, Check.RACE, 4, 0, command, 1, 0, Check.END, 0, 0,
          Check.WAIT, 0, 1, Check.WIN, 0, 0, command, 1, 0, Check.WAIT, 1, 1);
      Check.code(loom, 1, Check.WAIT, 0, 0);
      loom.begin(0, 0, 7);
      loom.begin(0, 0, 7);
      Check.work(loom, 0);
      Check.work(loom, 0);
      loom.signal(0, 0, 1);
      Check.workAll(loom);
      Check.due("what came of the commands", Check.history(loom, 0, 4).startsWith("SIGNAL 0 1, DROP 1 0, "), true);
      if (command == Check.ACT) {
        Check.due("the activity that was dropped", loom.activity(0), 2);
        Check.due("the new one", loom.activity(4), 0);
        Check.due("the other run's", loom.activity(2), 100);
        Check.due("the other branch's", loom.activity(1), 0);
      } else if (command == Check.TIMER) {
        loom.pass(1);
        Check.due("the timers", Check.history(loom, 0, 8), "FIRED 2 0, FIRED 6 0");
        Check.due("the other run's", Check.history(loom, 1, 4), "FIRED 1 0, FIRED 2 0");
      } else {
        Check.due("the child that was dropped", Check.history(loom, 2).contains("CANCEL"), true);
        Check.due("the other branch's", Check.history(loom, 3).contains("CANCEL"), false);
        Check.due("the other run's", Check.history(loom, 4).contains("CANCEL"), false);
      }
    }
  }

  /** A branch that begins has nothing of one that was there before it. */
  private static void branchesBeginAnew() {
    // 1 takes a shield, a handler and a rival, and ends; 3 begins when 2 is there still.
    DurableLoom loom = Check.with(Check.PAR, 7, 0, Check.PAR, 11, 0, Check.WAIT, 0, 1, Check.PAR, 13, 0, Check.PAR, 13, 0,
        Check.TRY, 6, 0, Check.WAIT, 3, 1, Check.SHIELD, 0, 0, Check.TRY, 6, 0, Check.RACE, 10, 0,
        Check.END, 0, 0, Check.TRY, 6, 0, Check.WAIT, 1, 1, Check.TIMER, 20, 0, Check.FAIL, 0, 0);
    loom.begin(0, 0, 7);
    loom.signal(0, 0, 5);
    Check.work(loom, 0);
    Check.due("the history", Check.history(loom, 0, 2), "TIMER 20 0, TIMER 20 0, TASK 2 0");
    loom.cancel(0);
    Check.work(loom, 0);
    Check.due("no shield and no handler of others", Check.history(loom, 0, 5), "CANCEL 0 0, DROP 2 0, FAIL 0 0, TASK 3 0");
    // 1 is told of CANCEL behind its shield, and ends; 2 begins behind that.
    DurableLoom ended = Check.with(Check.TRY, 3, 0, Check.PAR, 6, 0, Check.WAIT, 0, 1, Check.WAIT, 0, 1, Check.PAR, 9, 0,
        Check.WAIT, 0, 1, Check.SHIELD, 0, 0, Check.WAIT, 1, 1, Check.END, 0, 0, Check.SHIELD, 0, 0, Check.BARE, 0, 0,
        Check.TIMER, 20, 0);
    ended.begin(0, 0, 7);
    Check.work(ended, 0);
    ended.cancel(0);
    ended.signal(0, 1, 1);
    Check.due("the branch ends behind its shield", Check.work(ended, 0), 0);
    ended.signal(0, 0, 1);
    Check.work(ended, 0);
    Check.due("the next one is not told", Check.history(ended, 0, 5), "SIGNAL 0 1, TIMER 20 0, TASK 4 0");
    // 1 and what is below it are dropped; what begins then is not dropped by the next WIN.
    DurableLoom twice = Check.with(Check.RACE, 7, 0, Check.WAIT, 0, 1, Check.WIN, 0, 0, Check.PAR, 7, 0, Check.RACE, 7, 0,
        Check.WAIT, 0, 1, Check.GOTO, 8, 0, Check.TIMER, 50, 0, Check.WIN, 0, 0, Check.WAIT, 0, 1);
    twice.begin(0, 0, 7);
    Check.work(twice, 0);
    twice.signal(0, 0, 1);
    Check.work(twice, 0);
    twice.signal(0, 0, 1);
    Check.work(twice, 0);
    Check.due("two WINs", Check.history(twice, 0, 3), "SIGNAL 0 1, DROP 1 0, TIMER 50 0, TIMER 50 0, TASK 2 0, "
        + "SIGNAL 0 1, DROP 6 0, TASK 3 0");
  }

  private static void handlers() {
    Check.due("FAIL", once(Check.FAIL, 0, 0), "FAIL 0 0, TASK 1 0");
    Check.due("the last handler first", once(Check.TRY, 4, 0, Check.TRY, 3, 0, Check.FAIL, 0, 0,
        Check.FAIL, 0, 0, Check.ADD, 0, 0), "DONE 14 0, TASK 1 0");
    Check.due("OVER", once(Check.TRY, 5, 0, Check.TRY, 4, 0, Check.OVER, 0, 0, Check.FAIL, 0, 0,
        Check.SET, 0, 3, Check.ADD, 0, 0), "DONE 14 0, TASK 1 0");
    Check.due("OVER of none", once(Check.OVER, 0, 0, Check.FAIL, 0, 0), "FAIL 0 0, TASK 1 0");
    Check.due("a branch has no handler of its parent", once(Check.TRY, 4, 0, Check.PAR, 3, 0, Check.TIMER, 5, 0,
        Check.FAIL, 0, 0, Check.SET, 0, 1), "TIMER 5 0, FAIL 0 0, TASK 1 0");
    DurableLoom loom = Check.with(Check.TRY, 3, 0, Check.ACT, 0, 1, Check.END, 0, 0, Check.CHILD, 3, 0);
    loom.setKind(0, 1, 0, 0, 0, 0);
    loom.begin(0, 0, 7);
    Check.work(loom, 0);
    loom.take(0);
    loom.fail(0, false);
    Check.work(loom, 0);
    Check.due("FAILED, then no version", Check.history(loom, 0, 3), "FAILED 1 0, CHILD 3 7, TASK 2 0, BROKEN 4 0");
    Check.work(loom, 0);
    Check.due("BROKEN without handler", Check.history(loom, 0, 6), "BROKEN 4 0, FAIL 0 0, TASK 3 0");
    Check.due("the status", Check.status(loom, 0), DurableLoom.FAILED);
  }

  private static void sagas() {
    DurableLoom loom = Check.with(Check.COMP, 1, 0, Check.SET, 0, 20, Check.COMP, 2, 0, Check.UNDO, 0, 0);
    loom.begin(0, 0, 7);
    Check.work(loom, 0);
    Check.due("UNDO of the last", Check.history(loom, 0, 1), "ACTIVITY 2 20, TASK 1 0");
    loom.setKind(2, 1, 0, 0, 0, 0);
    loom.take(2);
    loom.fail(0, false);
    Check.work(loom, 0);
    Check.due("UNDO goes on though it failed", Check.history(loom, 0, 3), "FAILED 1 0, ACTIVITY 1 7, TASK 2 0");
    loom.take(1);
    loom.answer(1, 500);
    Check.work(loom, 0);
    Check.due("UNDO with nothing left", Check.history(loom, 0, 6), "ANSWER 4 500, DONE 20 0, TASK 3 0");
    Check.due("UNDO with the value 0", once(Check.COMP, 1, 5, Check.UNDO, 0, 0), "ACTIVITY 1 0, TASK 1 0");
    DurableLoom two = Check.with(Check.ZERO, 0, 3, Check.COMP, 1, 0, Check.WAIT, 0, 1, Check.UNDO, 0, 0);
    two.begin(0, 0, 7);
    two.begin(0, 0, 0);
    Check.work(two, 0);
    Check.work(two, 0);
    Check.due("another run's stack", Check.history(two, 1, 1), "DONE 0 0, TASK 1 0");
    Check.due("UNDO of nothing", once(Check.UNDO, 0, 0, Check.ADD, 0, 0), "DONE 14 0, TASK 1 0");
    Check.due("a branch's UNDO takes the run's stack", once(Check.COMP, 3, 0, Check.PAR, 3, 0, Check.TIMER, 5, 0,
        Check.UNDO, 0, 0), "TIMER 5 0, ACTIVITY 3 7, TASK 1 0");
  }

  private static void endings() {
    Check.due("END", once(Check.END, 0, 0, Check.FAIL, 0, 0), "DONE 7 0, TASK 1 0");
    DurableLoom loom = Check.with(Check.ZERO, 0, 3, Check.SET, 1, 0, Check.AGAIN, 1, 0, Check.SET, 0, 77);
    loom.begin(0, 2, 7);
    Check.work(loom, 0);
    Check.due("AGAIN", Check.history(loom, 0), "START 7 0, AGAIN 0 0, TASK 1 0");
    Check.due("the old run", Check.status(loom, 0), DurableLoom.CONTINUED);
    Check.work(loom, 0);
    Check.due("the new run", Check.history(loom, 1), "START 0 0, DONE 77 0, TASK 1 0");
    againTakesSignals();
    againOfChild();
    againOfParent();
    againWithoutRoom();
  }

  private static void againTakesSignals() {
    DurableLoom loom = Check.with(Check.PAR, 3, 0, Check.ACT, 3, 0, Check.END, 0, 0, Check.TIMER, 1, 0, Check.AGAIN, 0, 0);
    loom.begin(0, 0, 7);
    Check.work(loom, 0);
    loom.signal(0, 2, 20);
    loom.signal(0, 0, 10);
    loom.signal(0, 2, 21);
    loom.pass(1);
    loom.signal(0, 0, 5);
    Check.due("poll", loom.poll(0), 100);
    loom.signal(0, 3, 6);
    Check.code(loom, 0, Check.WAIT, 3, 3);
    Check.due("complete", loom.complete(1), 1);
    Check.due("a TASK counts all that it knows", Check.history(loom, 0, 7),
        "FIRED 2 0, SIGNAL 0 5, SIGNAL 3 6, AGAIN 7 0, TASK 6 0");
    Check.due("the signals of the new run", Check.history(loom, 1),
        "START 7 0, SIGNAL 0 10, SIGNAL 2 20, SIGNAL 2 21, SIGNAL 0 5, SIGNAL 3 6");
    Check.due("the activity of the old run", loom.activity(0), 2);
    Check.work(loom, 0);
    Check.due("the new run has the latest version", Check.history(loom, 1, 6), "DONE 7 0, TASK 6 0");
    Check.due("the variables", Check.variables(loom, 1), "7 0 0 6 0 0");
  }

  private static void againOfChild() {
    DurableLoom loom = Check.with(Check.CHILD, 1, 0);
    Check.code(loom, 1, Check.ZERO, 0, 3, Check.SET, 0, 0, Check.AGAIN, 0, 0, Check.SET, 0, 44);
    loom.begin(0, 1, 7);
    Check.workAll(loom);
    Check.due("the child's child", Check.history(loom, 2), "START 0 0, DONE 44 0, TASK 1 0");
    Check.due("the parent hears once", Check.history(loom, 0, 1), "CHILD 1 7, TASK 1 0, RESULT 1 44, DONE 44 0, TASK 2 0");
  }

  private static void againOfParent() {
    DurableLoom loom = Check.with(Check.PAR, 3, 0, Check.WAIT, 0, 0, Check.AGAIN, 0, 0, Check.CHILD, 1, 0);
    Check.code(loom, 1, Check.WAIT, 0, 0);
    loom.setPolicy(1, 2);
    loom.begin(0, 0, 7);
    loom.begin(1, 0, 7);
    Check.work(loom, 0);
    loom.signal(0, 0, 5);
    Check.work(loom, 0);
    Check.work(loom, 0);
    loom.pass(1);
    Check.workAll(loom);
    Check.due("AGAIN", Check.status(loom, 0), DurableLoom.CONTINUED);
    Check.due("its child is stopped", Check.status(loom, 2), DurableLoom.STOPPED);
    Check.due("another run is not", Check.status(loom, 1), DurableLoom.OPEN);
    Check.due("the new run has a child of its own", Check.history(loom, 3), "START 5 0, CHILD 1 5, TASK 1 0");
  }

  private static void againWithoutRoom() {
    DurableLoom loom = Check.with(Check.CHILD, 1, 0);
    Check.code(loom, 1, Check.AGAIN, 0, 0);
    loom.begin(0, 0, 7);
    for (int i = 1; i < 29; i++) {
      loom.begin(0, 1, 7);
    }
    Check.work(loom, 0);
    Check.due("the 30th run", loom.runs(), 30);
    loom.pass(1);
    int task = loom.poll(0);
    for (int i = 0; i < 5 && task % 100 != 29; i++) {
      task = loom.poll(0);
    }
    Check.due("the child's task", task % 100, 29);
    Check.due("complete", loom.complete(task / 100), 1);
    Check.due("AGAIN without room", Check.history(loom, 29), "START 7 0, AGAIN 7 0, TASK 1 0");
    Check.due("its status", Check.status(loom, 29), DurableLoom.FAILED);
    Check.due("its parent", Check.history(loom, 0, 1), "CHILD 1 7, TASK 1 0, BROKEN 1 0");
  }

  private static void now() {
    DurableLoom loom = Check.with(Check.NOW, 1, 0, Check.TIMER, 3, 0, Check.NOW, 2, 0, Check.WAIT, 0, 0);
    loom.pass(100);
    loom.begin(0, 0, 7);
    loom.pass(50);
    Check.work(loom, 0);
    loom.pass(5);
    Check.work(loom, 0);
    Check.due("NOW is when the event came", Check.variables(loom, 0), "7 100 153 0 0 0");
    DurableLoom late = Check.with(Check.NOW, 0, 0);
    for (int i = 0; i < 10; i++) {
      late.pass(100);
    }
    late.pass(5);
    late.begin(0, 0, 7);
    Check.work(late, 0);
    Check.due("NOW by 1000", Check.history(late, 0, 1), "DONE 5 0, TASK 1 0");
  }

  private static void tags() {
    DurableLoom loom = Check.with(Check.TAG, 0, 0, Check.SET, 0, 500, Check.TAG, 0, 0);
    loom.begin(0, 0, 7);
    Check.due("work", Check.work(loom, 0), 3);
    Check.due("TAG", Check.history(loom, 0, 1), "TAG 7 0, TAG 500 0, DONE 500 0, TASK 1 0");
    Check.due("bringIn", loom.bringIn(1), 1);
    Check.due("search", loom.search(7), 1);
  }

  private static void sixtyLines() {
    DurableLoom sixty = withLines(2);
    sixty.begin(0, 0, 7);
    Check.due("60 lines", Check.work(sixty, 0), 3);
    DurableLoom more = withLines(1);
    more.begin(0, 0, 7);
    Check.due("61 lines", Check.work(more, 0), -2);
    Check.due("it spins", more.difference(0), -1);
    Check.due("nothing is put", Check.history(more, 0), "START 7 0");
    signalsCountAnew();
  }

  /** 2 lines of the branch 0 alone, 20 of 0 and 1 each, the last a TIMER, and 20 without the first ones of 2. */
  private static DurableLoom withLines(int without) {
    int[] lines = new int[3 * 22];
    lines[0] = Check.PAR;
    lines[1] = 2;
    lines[3] = Check.PAR;
    lines[4] = 2 + without;
    lines[63] = Check.TIMER;
    lines[64] = 1;
    return Check.with(lines);
  }

  /** Each arrival has its own 60 lines, and a line at which a branch waits is not come to again. */
  private static void signalsCountAnew() {
    int[] lines = new int[3 * 24];
    for (int i = 0; i < 22; i++) {
      lines[3 * i] = Check.SET;
      lines[3 * i + 1] = 1;
    }
    lines[66] = Check.WAIT;
    lines[69] = Check.GOTO;
    DurableLoom loom = Check.with(lines);
    loom.begin(0, 0, 7);
    for (int i = 0; i < 40; i++) {
      loom.signal(0, 0, i);
    }
    Check.due("23 lines for START, 24 for each signal", Check.work(loom, 0), 0);
    Check.due("the last signal", loom.query(0, 0), 39);
  }

  private static void twelveBranches() {
    int[] lines = new int[3 * 13];
    for (int i = 0; i < 11; i++) {
      lines[3 * i] = Check.PAR;
      lines[3 * i + 1] = 12;
    }
    lines[33] = Check.WAIT;
    lines[36] = Check.WAIT;
    lines[37] = 1;
    DurableLoom twelve = Check.with(lines);
    twelve.begin(0, 0, 7);
    Check.due("12 branches", Check.work(twelve, 0), 0);
    lines[33] = Check.PAR;
    lines[34] = 12;
    DurableLoom thirteen = Check.with(lines);
    thirteen.begin(0, 0, 7);
    Check.due("13 branches", Check.work(thirteen, 0), -2);
    Check.due("it spins", thirteen.difference(0), -1);
    Check.due("nothing is put", Check.history(thirteen, 0), "START 7 0");
    lines[33] = Check.RACE;
    DurableLoom race = Check.with(lines);
    race.begin(0, 0, 7);
    Check.due("13 branches by RACE", Check.work(race, 0), -2);
    DurableLoom ending = Check.with(Check.PAR, 3, 0, Check.JOIN, 0, 0, Check.GOTO, 0, 0, Check.WAIT, 0, 1);
    ending.begin(0, 0, 7);
    for (int i = 0; i < 20; i++) {
      ending.signal(0, 0, i);
    }
    Check.due("more than 12 branches, one after the other", Check.work(ending, 0), 0);
    Check.due("the last signal", ending.query(0, 1), 19);
  }
}
