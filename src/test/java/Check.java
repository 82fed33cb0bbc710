/** What the tests share: they count what is wrong, and end with exit code 1 if there was anything. */
final class Check {
  static final int SET = 0, ADD = 1, ACT = 2, TIMER = 3, WAIT = 4, CHILD = 5, ZERO = 6, GOTO = 7;
  static final int PAR = 8, JOIN = 9, RACE = 10, WIN = 11, TRY = 12, OVER = 13, COMP = 14, UNDO = 15;
  static final int END = 16, FAIL = 17, AGAIN = 18, PATCH = 19, NOW = 20, SHIELD = 21, BARE = 22, TAG = 23;

  private static final String[] KINDS = {"START", "ANSWER", "FAILED", "FIRED", "SIGNAL", "RESULT", "BROKEN",
      "CANCEL", "ACTIVITY", "TIMER", "CHILD", "DROP", "PATCH", "TAG", "DONE", "FAIL", "AGAIN", "TASK"};

  private static int wrong = 0;
  private static int looked = 0;

  private Check() { }

  static void due(String what, long got, long want) {
    looked++;
    if (got != want) {
      wrong++;
      System.out.println(what + " answered " + got + ", due is " + want);
    }
  }

  static void due(String what, boolean got, boolean want) {
    due(what, got ? 1 : 0, want ? 1 : 0);
  }

  static void due(String what, String got, String want) {
    looked++;
    if (!got.equals(want)) {
      wrong++;
      System.out.println(what + " is\n  " + got + ", due is\n  " + want);
    }
  }

  /** Looks whether a call throws just that exception, and leaves the object as it was. */
  static void dueThrown(DurableLoom loom, String what, Class<?> want, Runnable call) {
    String before = face(loom);
    Class<?> got = thrown(call);
    due(what + " throws", got == null ? "nothing" : got.getName(), want.getName());
    due("the object behind " + what, face(loom), before);
  }

  static void dueIndex(DurableLoom loom, String what, Runnable call) {
    dueThrown(loom, what, IndexOutOfBoundsException.class, call);
  }

  static void dueArgument(DurableLoom loom, String what, Runnable call) {
    dueThrown(loom, what, IllegalArgumentException.class, call);
  }

  static void dueState(DurableLoom loom, String what, Runnable call) {
    dueThrown(loom, what, IllegalStateException.class, call);
  }

  static Class<?> thrown(Runnable call) {
    try {
      call.run();
    } catch (RuntimeException e) {
      return e.getClass();
    }
    return null;
  }

  /** Makes lines of three numbers the latest version of a type; returns its number. */
  static int code(DurableLoom loom, int type, int... lines) {
    for (int i = 0; i + 2 < lines.length; i += 3) {
      loom.line(type, lines[i], lines[i + 1], lines[i + 2]);
    }
    return loom.deploy(type);
  }

  /** An engine whose type 0 has these lines of three numbers each. */
  static DurableLoom with(int... lines) {
    DurableLoom loom = new DurableLoom();
    code(loom, 0, lines);
    return loom;
  }

  /** Lets a worker complete the next task; returns what complete returns, or -9 if there is none. */
  static int work(DurableLoom loom, int worker) {
    int task = loom.poll(worker);
    return task < 0 ? -9 : loom.complete(task / 100);
  }

  /** Lets the worker 0 complete tasks until there is none. */
  static void workAll(DurableLoom loom) {
    loom.setRate(10);
    for (int i = 0; i < 200 && work(loom, 0) != -9; i++) { }
  }

  static int size(DurableLoom loom, int run) {
    return loom.standing(run) / 10;
  }

  static int status(DurableLoom loom, int run) {
    return loom.standing(run) % 10;
  }

  /** The events of a run from one on, each as its kind, x and y. */
  static String history(DurableLoom loom, int run, int from) {
    StringBuilder text = new StringBuilder();
    for (int i = from; i < size(loom, run); i++) {
      int event = loom.event(run, i);
      text.append(i > from ? ", " : "").append(KINDS[event / 1000000]);
      text.append(' ').append(event / 1000 % 1000).append(' ').append(event % 1000);
    }
    return text.toString();
  }

  static String history(DurableLoom loom, int run) {
    return history(loom, run, 0);
  }

  static String variables(DurableLoom loom, int run) {
    StringBuilder text = new StringBuilder();
    for (int i = 0; i < 6; i++) {
      int value = loom.query(run, i);
      due("plain(" + run + ", " + i + ")", loom.plain(run, i), value);
      text.append(i > 0 ? " " : "").append(value);
    }
    return text.toString();
  }

  /** All that calls which change nothing tell of an object. */
  static String face(DurableLoom loom) {
    StringBuilder text = new StringBuilder();
    for (int run = 0; run < loom.runs(); run++) {
      text.append(loom.standing(run)).append(':').append(history(loom, run)).append(';');
    }
    for (int activity = 0; activity < 60; activity++) {
      int of = activity;
      if (thrown(() -> text.append(loom.activity(of)).append(' ')) != null) {
        break;
      }
    }
    for (int worker = 0; worker < 3; worker++) {
      text.append(loom.replays(worker)).append(' ');
    }
    for (int tag = 0; tag < 20; tag++) {
      text.append(loom.search(tag)).append(' ');
    }
    return text.toString();
  }

  static void end() {
    System.out.println(wrong == 0 ? looked + " answers are as due" : wrong + " answers are not as due");
    if (wrong != 0 || looked == 0) {
      System.exit(1);
    }
  }
}
