/** Promises 21 to 26: take, answer, fail, beat, activity, pass. */
public final class ActivitiesTest {
  public static void main(String[] args) {
    taking();
    answering();
    failing();
    beating();
    limitToBegin();
    limitToEnd();
    limitOfBeats();
    limitsOfLaterKinds();
    timers();
    orderInATick();
    passing();
    wrongNumbers();
    Check.end();
  }

  /** An engine with runs of one activity each: of the kind 0, or 1 for each second one. */
  private static DurableLoom withActivities(int many) {
    DurableLoom loom = Check.with(Check.ACT, 0, 0, Check.WAIT, 0, 1);
    Check.code(loom, 1, Check.ACT, 1, 0, Check.WAIT, 0, 1);
    for (int i = 0; i < many; i++) {
      loom.begin(i % 2, i % 3, 10 + i);
      Check.work(loom, 0);
    }
    return loom;
  }

  private static void taking() {
    DurableLoom loom = withActivities(5);
    Check.due("take of the kind 1", loom.take(1), 1011);
    Check.due("take of the kind 0", loom.take(0), 10);
    Check.due("take of the kind 0", loom.take(0), 2012);
    Check.due("take of the kind 1", loom.take(1), 3013);
    Check.due("take of the kind 1", loom.take(1), -1);
    Check.due("take of the kind 2", loom.take(2), -1);
    Check.due("take of the kind 0", loom.take(0), 4014);
    loom.fail(2, false);
    loom.fail(0, false);
    loom.pass(1);
    Check.due("take ahead of the time", loom.take(0), -1);
    loom.pass(1);
    Check.due("take, the lowest", loom.take(0), 10);
    Check.due("take", loom.take(0), 2012);
  }

  private static void answering() {
    DurableLoom loom = withActivities(2);
    Check.due("answer of one that waits", loom.answer(0, 5), false);
    loom.take(0);
    Check.dueArgument(loom, "answer 1000", () -> loom.answer(0, 1000));
    Check.dueArgument(loom, "answer -1", () -> loom.answer(0, -1));
    Check.due("answer", loom.answer(0, 999), true);
    Check.due("answer again", loom.answer(0, 5), false);
    Check.due("fail behind the answer", loom.fail(0, true), false);
    Check.due("the run", Check.history(loom, 0, 3), "ANSWER 1 999");
    Check.due("the activity", loom.activity(0), 12);
    loom.take(1);
    Check.due("answer", loom.answer(1, 0), true);
    Check.due("the other run", Check.history(loom, 1, 3), "ANSWER 1 0");
    Check.due("the other activity", loom.activity(1), 112);
  }

  private static void failing() {
    DurableLoom loom = withActivities(3);
    Check.due("fail of one that waits", loom.fail(0, false), false);
    loom.take(0);
    Check.due("a final fail", loom.fail(0, true), true);
    Check.due("the run", Check.history(loom, 0, 3), "FAILED 1 0");
    Check.due("the activity", loom.activity(0), 12);
    Check.due("fail again", loom.fail(0, false), false);
    loom.setKind(0, 2, 3, 0, 0, 0);
    loom.take(0);
    Check.due("a fail", loom.fail(2, false), true);
    Check.due("it waits again", loom.activity(2), 210);
    Check.due("answer of one that waits again", loom.answer(2, 5), false);
    loom.pass(2);
    Check.due("take ahead of the pause", loom.take(0), -1);
    loom.pass(1);
    Check.due("take", loom.take(0), 2012);
    Check.due("the attempts", loom.activity(2), 221);
    Check.due("the last fail", loom.fail(2, false), true);
    Check.due("the activity", loom.activity(2), 222);
    Check.due("the run", Check.history(loom, 2, 3), "FAILED 1 0");
  }

  private static void beating() {
    DurableLoom loom = withActivities(1);
    Check.due("beat of one that waits", loom.beat(0, 5), -1);
    loom.take(0);
    Check.dueArgument(loom, "beat 1000", () -> loom.beat(0, 1000));
    Check.dueArgument(loom, "beat -1", () -> loom.beat(0, -1));
    Check.due("the first beat", loom.beat(0, 999), 0);
    Check.due("beat", loom.beat(0, 3), 999);
    loom.fail(0, false);
    Check.due("beat of one that waits again", loom.beat(0, 8), -1);
    loom.pass(2);
    loom.take(0);
    Check.due("beat of another attempt", loom.beat(0, 4), 3);
    loom.answer(0, 5);
    Check.due("beat of one that is over", loom.beat(0, 8), -1);
  }

  private static void limitToBegin() {
    DurableLoom loom = withActivities(0);
    loom.setKind(0, 3, 1, 4, 0, 0);
    loom.pass(7);
    loom.begin(0, 0, 1);
    loom.begin(0, 0, 2);
    Check.workAll(loom);
    loom.take(0);
    loom.fail(0, false);
    loom.pass(3);
    Check.due("ahead of the limit", loom.standing(1), 30);
    loom.pass(1);
    Check.due("at the limit", Check.history(loom, 1, 3), "FAILED 1 0");
    Check.due("the activity", loom.activity(1), 102);
    loom.pass(20);
    Check.due("one that had an attempt waits on", loom.activity(0), 10);
    Check.due("its run", loom.standing(0), 30);
  }

  private static void limitToEnd() {
    DurableLoom loom = withActivities(1);
    loom.setKind(0, 2, 1, 0, 3, 0);
    loom.pass(10);
    loom.take(0);
    loom.pass(2);
    loom.beat(0, 6);
    Check.due("ahead of the limit", loom.activity(0), 11);
    loom.pass(1);
    Check.due("at the limit the attempt fails", loom.activity(0), 10);
    Check.due("answer", loom.answer(0, 5), false);
    Check.due("take ahead of the pause", loom.take(0), -1);
    loom.pass(1);
    Check.due("take behind the pause", loom.take(0), 10);
    loom.pass(3);
    Check.due("the last attempt", loom.activity(0), 22);
    Check.due("the run", Check.history(loom, 0, 3), "FAILED 1 0");
  }

  private static void limitOfBeats() {
    DurableLoom loom = withActivities(1);
    loom.setKind(0, 2, 0, 0, 10, 2);
    loom.take(0);
    loom.pass(1);
    loom.beat(0, 1);
    loom.pass(1);
    Check.due("a beat that was in time", loom.activity(0), 11);
    loom.beat(0, 2);
    loom.pass(1);
    Check.due("ahead of the limit", loom.activity(0), 11);
    loom.pass(1);
    Check.due("at the limit", loom.activity(0), 10);
    loom.pass(3);
    loom.take(0);
    loom.pass(1);
    Check.due("the taking counts as a beat", loom.activity(0), 21);
    loom.pass(1);
    Check.due("the last attempt", loom.activity(0), 22);
    DurableLoom one = withActivities(2);
    one.setKind(0, 1, 0, 0, 0, 1);
    one.setKind(1, 1, 0, 1, 0, 0);
    one.take(0);
    one.pass(1);
    Check.due("the limit 1 of beats", one.activity(0), 12);
    Check.due("the limit 1 of waiting", one.activity(1), 102);
    DurableLoom none = withActivities(1);
    none.take(0);
    none.pass(100);
    Check.due("no limits at first", none.activity(0), 11);
  }

  private static void limitsOfLaterKinds() {
    DurableLoom loom = withActivities(2);
    loom.take(0);
    loom.pass(9);
    loom.setKind(0, 1, 0, 0, 3, 0);
    loom.setKind(1, 1, 0, 5, 0, 0);
    Check.due("nothing is looked at ahead of a tick", loom.activity(0), 11);
    loom.pass(1);
    Check.due("a limit that was gone by", loom.activity(0), 12);
    Check.due("a limit that was gone by", loom.activity(1), 102);
  }

  private static void timers() {
    DurableLoom loom = Check.with(Check.PAR, 4, 0, Check.PAR, 6, 0, Check.TIMER, 3, 0, Check.WAIT, 0, 0,
        Check.TIMER, 1, 0, Check.WAIT, 0, 0, Check.TIMER, 3, 0, Check.WAIT, 0, 0);
    loom.begin(0, 0, 7);
    loom.pass(4);
    Check.work(loom, 0);
    Check.due("the timers", Check.history(loom, 0, 1), "TIMER 3 0, TIMER 1 0, TIMER 3 0, TASK 1 0");
    loom.pass(1);
    Check.due("one tick", Check.history(loom, 0, 5), "FIRED 2 0");
    loom.pass(1);
    Check.due("two ticks", Check.history(loom, 0, 5), "FIRED 2 0");
    loom.pass(1);
    Check.due("three ticks", Check.history(loom, 0, 5), "FIRED 2 0, FIRED 1 0, FIRED 3 0");
    loom.pass(100);
    Check.due("once", Check.size(loom, 0), 8);
  }

  /** First timers, by runs; then activities; then schedules. */
  private static void orderInATick() {
    DurableLoom loom = Check.with(Check.PAR, 3, 0, Check.ACT, 0, 0, Check.END, 0, 0, Check.TIMER, 2, 0, Check.WAIT, 0, 0);
    loom.setKind(0, 1, 0, 2, 0, 0);
    loom.begin(0, 0, 7);
    loom.begin(0, 0, 8);
    loom.schedule(0, 0, 2, 3);
    Check.workAll(loom);
    loom.pass(2);
    Check.due("the first run", Check.history(loom, 0, 4), "FIRED 2 0, FAILED 1 0");
    Check.due("the second run", Check.history(loom, 1, 4), "FIRED 2 0, FAILED 1 0");
    loom.setRate(10);
    Check.due("poll", loom.poll(0) % 100, 0);
    Check.due("poll", loom.poll(0) % 100, 1);
    Check.due("poll", loom.poll(0) % 100, 2);
  }

  private static void passing() {
    DurableLoom loom = new DurableLoom();
    Check.dueArgument(loom, "pass(0)", () -> loom.pass(0));
    Check.dueArgument(loom, "pass(101)", () -> loom.pass(101));
    Check.dueArgument(loom, "pass(-1)", () -> loom.pass(-1));
    Check.due("pass(1)", loom.pass(1), 1);
    Check.due("pass(100)", loom.pass(100), 101);
    Check.due("pass(1)", loom.pass(1), 102);
  }

  private static void wrongNumbers() {
    DurableLoom loom = withActivities(1);
    for (int wrong : new int[] {-1, 1, 60, Integer.MAX_VALUE, Integer.MIN_VALUE}) {
      Check.dueIndex(loom, "answer of no activity", () -> loom.answer(wrong, 1000));
      Check.dueIndex(loom, "fail of no activity", () -> loom.fail(wrong, true));
      Check.dueIndex(loom, "beat of no activity", () -> loom.beat(wrong, -1));
      Check.dueIndex(loom, "activity of no activity", () -> loom.activity(wrong));
    }
    Check.dueIndex(loom, "take(4)", () -> loom.take(4));
    Check.dueIndex(loom, "take(-1)", () -> loom.take(-1));
    Check.due("take", loom.take(0), 10);
  }
}
