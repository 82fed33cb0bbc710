/** Promises 1 to 5: a new object, line, deploy, setKind, setPolicy. */
public final class CodeTest {
  private static final int[] TOP_A = {5, 5, 3, 100, 3, 3, 5, 23, 23, 0, 23, 0, 23, 0, 3, 0, 0, 0, 5, 9, 5, 0, 0, 5};
  private static final int[] TOP_B = {999, 5, 5, 0, 5, 5, 23, 0, 0, 0, 0, 0, 0, 0, 5, 0, 0, 0, 0, 23, 0, 0, 0, 0};

  public static void main(String[] args) {
    newObject();
    lines();
    fullDraft();
    versions();
    latestVersion();
    kinds();
    policies();
    Check.end();
  }

  private static void newObject() {
    DurableLoom loom = new DurableLoom();
    Check.due("runs() of a new object", loom.runs(), 0);
    for (int worker = 0; worker < 3; worker++) {
      Check.due("poll of a new object", loom.poll(worker), -1);
      Check.due("replays of a new object", loom.replays(worker), 0);
      Check.due("die of a new object", loom.die(worker), 0);
    }
    for (int kind = 0; kind < 4; kind++) {
      Check.due("take of a new object", loom.take(kind), -1);
    }
    Check.due("shift(0) of a new object", loom.shift(0), 0);
    Check.due("pass(1) of a new object", loom.pass(1), 1);
    Check.due("bringIn(1) of a new object", loom.bringIn(1), 0);
    Check.due("search(0) of a new object", loom.search(0), 0);
    for (int type = 0; type < 4; type++) {
      int of = type;
      Check.dueState(loom, "deploy of a new object", () -> loom.deploy(of));
      Check.dueState(loom, "begin of a new object", () -> loom.begin(of, 0, 0));
      Check.dueIndex(loom, "unsafe of a new object", () -> loom.unsafe(of, 0));
    }
  }

  private static void lines() {
    for (int command = 0; command < 24; command++) {
      int of = command;
      int least = command == Check.TIMER ? 1 : 0;
      int topA = TOP_A[command];
      int topB = TOP_B[command];
      DurableLoom loom = new DurableLoom();
      String what = "line(0, " + command + ", ..)";
      Check.due(what + " lowest", loom.line(0, command, least, 0), 1);
      Check.due(what + " highest", loom.line(0, command, topA, topB), 2);
      Check.dueArgument(loom, what + " a below", () -> loom.line(0, of, least - 1, 0));
      Check.dueArgument(loom, what + " a above", () -> loom.line(0, of, topA + 1, 0));
      Check.dueArgument(loom, what + " b below", () -> loom.line(0, of, least, -1));
      Check.dueArgument(loom, what + " b above", () -> loom.line(0, of, least, topB + 1));
      Check.dueArgument(loom, what + " far", () -> loom.line(0, of, Integer.MAX_VALUE, Integer.MIN_VALUE));
      Check.due(what + " behind wrong ones", loom.line(0, command, least, 0), 3);
    }
    DurableLoom loom = new DurableLoom();
    Check.dueArgument(loom, "line command -1", () -> loom.line(0, -1, 0, 0));
    Check.dueArgument(loom, "line command 24", () -> loom.line(0, 24, 0, 0));
    Check.dueIndex(loom, "line type -1", () -> loom.line(-1, 0, 0, 0));
    Check.dueIndex(loom, "line type 4", () -> loom.line(4, 0, 0, 0));
    Check.dueIndex(loom, "line type 4, command 24", () -> loom.line(4, 24, -1, -1));
    Check.due("line of another type", loom.line(3, Check.END, 0, 0), 1);
    Check.due("line of a type", loom.line(0, Check.END, 0, 0), 1);
  }

  private static void fullDraft() {
    DurableLoom loom = new DurableLoom();
    for (int i = 1; i <= 24; i++) {
      Check.due("line " + i, loom.line(1, Check.SET, 0, 0), i);
    }
    Check.dueState(loom, "the 25th line", () -> loom.line(1, Check.SET, 0, 0));
    Check.dueArgument(loom, "the 25th line, wrong", () -> loom.line(1, Check.SET, 6, 0));
    Check.dueIndex(loom, "the 25th line, no type", () -> loom.line(7, Check.SET, 0, 0));
    Check.due("line of another type", loom.line(2, Check.SET, 0, 0), 1);
    Check.due("deploy of 24 lines", loom.deploy(1), 0);
    Check.due("line of an empty draft", loom.line(1, Check.SET, 0, 0), 1);
  }

  private static void versions() {
    DurableLoom loom = new DurableLoom();
    Check.dueIndex(loom, "deploy(-1)", () -> loom.deploy(-1));
    Check.dueIndex(loom, "deploy(4)", () -> loom.deploy(4));
    Check.dueState(loom, "deploy of an empty draft", () -> loom.deploy(0));
    for (int version = 0; version < 4; version++) {
      loom.line(0, Check.END, 0, 0);
      Check.due("deploy", loom.deploy(0), version);
      Check.dueState(loom, "deploy of a draft that is empty again", () -> loom.deploy(0));
    }
    loom.line(0, Check.END, 0, 0);
    Check.dueState(loom, "the fifth version", () -> loom.deploy(0));
    Check.due("line of the draft that is kept", loom.line(0, Check.END, 0, 0), 3 - 1);
    loom.line(3, Check.END, 0, 0);
    Check.due("deploy of another type", loom.deploy(3), 0);
  }

  private static void latestVersion() {
    DurableLoom loom = Check.with(Check.SET, 0, 11);
    Check.code(loom, 0, Check.SET, 0, 22);
    loom.begin(0, 0, 5);
    Check.code(loom, 0, Check.SET, 0, 33);
    Check.due("work", Check.work(loom, 0), 1);
    Check.due("the version that was the latest at begin", Check.history(loom, 0), "START 5 0, DONE 22 0, TASK 1 0");
  }

  private static void kinds() {
    DurableLoom loom = new DurableLoom();
    loom.setKind(0, 1, 0, 0, 0, 0);
    loom.setKind(3, 4, 20, 50, 50, 50);
    Check.dueIndex(loom, "setKind(-1)", () -> loom.setKind(-1, 1, 0, 0, 0, 0));
    Check.dueIndex(loom, "setKind(4)", () -> loom.setKind(4, 0, -1, 0, 0, 0));
    int[][] wrong = {{0, 0, 0, 0, 0}, {5, 0, 0, 0, 0}, {1, -1, 0, 0, 0}, {1, 21, 0, 0, 0}, {1, 0, -1, 0, 0},
        {1, 0, 51, 0, 0}, {1, 0, 0, -1, 0}, {1, 0, 0, 51, 0}, {1, 0, 0, 0, -1}, {1, 0, 0, 0, 51}};
    for (int[] w : wrong) {
      Check.dueArgument(loom, "setKind, wrong", () -> loom.setKind(0, w[0], w[1], w[2], w[3], w[4]));
    }
    kindsAtFirst();
    kindsThatThrewAreAsBefore();
  }

  /** At first a kind has 3 attempts and a pause of 2. */
  private static void kindsAtFirst() {
    DurableLoom loom = Check.with(Check.ACT, 2, 0);
    loom.begin(0, 0, 7);
    Check.work(loom, 0);
    for (int attempt = 1; attempt <= 3; attempt++) {
      Check.due("take", loom.take(2), 7);
      Check.due("fail", loom.fail(0, false), true);
      Check.due("activity", loom.activity(0), 10 * attempt + (attempt < 3 ? 0 : 2));
      Check.due("take at once", loom.take(2), -1);
      loom.pass(1);
      Check.due("take ahead of the pause", loom.take(2), -1);
      loom.pass(1);
    }
    Check.due("the history", Check.history(loom, 0), "START 7 0, ACTIVITY 2 7, TASK 1 0, FAILED 1 0");
  }

  private static void kindsThatThrewAreAsBefore() {
    DurableLoom loom = Check.with(Check.ACT, 0, 0);
    loom.setKind(0, 2, 0, 0, 0, 0);
    Check.dueArgument(loom, "setKind, wrong at the end", () -> loom.setKind(0, 1, 20, 1, 1, 51));
    loom.begin(0, 0, 7);
    Check.work(loom, 0);
    loom.pass(5);
    Check.due("take", loom.take(0), 7);
    loom.pass(5);
    Check.due("fail", loom.fail(0, false), true);
    Check.due("take again at once", loom.take(0), 7);
  }

  private static void policies() {
    DurableLoom loom = new DurableLoom();
    Check.due("setPolicy", loom.setPolicy(0, 2), 0);
    Check.due("setPolicy", loom.setPolicy(0, 1), 2);
    Check.dueArgument(loom, "setPolicy 3", () -> loom.setPolicy(0, 3));
    Check.dueArgument(loom, "setPolicy -1", () -> loom.setPolicy(0, -1));
    Check.dueIndex(loom, "setPolicy of no type", () -> loom.setPolicy(4, 3));
    Check.dueIndex(loom, "setPolicy of no type", () -> loom.setPolicy(-1, 0));
    Check.due("setPolicy", loom.setPolicy(0, 0), 1);
    Check.due("setPolicy of another type", loom.setPolicy(3, 1), 0);
    closingBy(0, DurableLoom.OPEN, "START 1 0");
    closingBy(1, DurableLoom.OPEN, "START 1 0, CANCEL 0 0");
    closingBy(2, DurableLoom.STOPPED, "START 1 0");
  }

  /** A parent that closes ahead of its child. */
  private static void closingBy(int policy, int status, String history) {
    DurableLoom loom = Check.with(Check.PAR, 3, 0, Check.TIMER, 1, 0, Check.END, 0, 0, Check.CHILD, 1, 0);
    Check.code(loom, 1, Check.WAIT, 0, 0);
    loom.setPolicy(1, policy);
    loom.begin(0, 0, 1);
    Check.work(loom, 0);
    loom.pass(1);
    loom.setRate(10);
    Check.due("poll", loom.poll(0), 101);
    Check.due("poll", loom.poll(0), 200);
    Check.due("the parent closes", loom.complete(2), 1);
    Check.due("the parent", Check.status(loom, 0), DurableLoom.DONE);
    Check.due("the child's status by the policy " + policy, Check.status(loom, 1), status);
    Check.due("the child by the policy " + policy, Check.history(loom, 1), history);
  }
}
