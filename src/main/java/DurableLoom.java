import java.util.ArrayList;
import java.util.Arrays;

/** A workflow engine whose programs survive everything. */
public final class DurableLoom {
  public static final int OPEN = 0, DONE = 1, FAILED = 2, CANCELLED = 3, CONTINUED = 4;
  public static final int STOPPED = 5, STUCK = 6;

  private static final int TYPES = 4, KINDS = 4, TENANTS = 3, WORKERS = 3, NAMES = 4, VARIABLES = 6;
  private static final int MOST_VERSIONS = 4, MOST_LINES = 24, MOST_SCHEDULES = 4;
  private static final int MOST_RUNS = 30, MOST_ACTIVITIES = 60, MOST_EVENTS = 100;
  private static final int TOP = 999, HELD_TICKS = 5, MOST_DEPTH = 40;
  /** No 512 calls bring in more: tags behind these in the queue are counted, but not kept. */
  private static final int MOST_TAGS = 512 * 100;

  private static final int LAST_COMMAND = 23;
  private static final int[] TOP_A =
      {5, 5, 3, 100, 3, 3, 5, 23, 23, 0, 23, 0, 23, 0, 3, 0, 0, 0, 5, 9, 5, 0, 0, 5};
  private static final int[] TOP_B =
      {999, 5, 5, 0, 5, 5, 23, 0, 0, 0, 0, 0, 0, 0, 5, 0, 0, 0, 0, 23, 0, 0, 0, 0};

  private final Type[] types = new Type[TYPES];
  private final Kind[] kinds = new Kind[KINDS];
  private final ArrayList<Run> allRuns = new ArrayList<Run>();
  private final ArrayList<Activity> allActivities = new ArrayList<Activity>();
  private final ArrayList<Task> allTasks = new ArrayList<Task>();
  private final ArrayList<Schedule> allSchedules = new ArrayList<Schedule>();
  private final int[] replayed = new int[WORKERS];
  private final int[] given = new int[TENANTS];
  private final int[] givenNow = new int[TENANTS];
  private final Row tagQueue = new Row();
  private final Machine machine = new Machine();
  private int tagsPut = 0;
  private int tagsKnown = 0;
  private int rate = 3;
  private int time = 0;
  private int offset = 0;
  private int arrivalsSoFar = 0;
  private boolean joined = true;

  /** Creates an engine without code, at the time 0. */
  public DurableLoom() {
    for (int i = 0; i < types.length; i++) {
      types[i] = new Type();
    }
    for (int i = 0; i < kinds.length; i++) {
      kinds[i] = new Kind();
    }
  }

  // ---- code

  /** Adds a line to the draft of a type's code; returns how many lines the draft has then. */
  public int line(int type, int command, int a, int b)
      throws IndexOutOfBoundsException, IllegalArgumentException, IllegalStateException {
    Type of = typeAt(type);
    if (command < 0 || command > LAST_COMMAND || command >= TOP_A.length || command >= TOP_B.length) {
      throw new IllegalArgumentException("no such command");
    }
    int least = command == Machine.TIMER ? 1 : 0;
    if (a < least || a > TOP_A[command] || b < 0 || b > TOP_B[command]) {
      throw new IllegalArgumentException("a or b is out of range");
    }
    if (of.draft.size >= MOST_LINES) {
      throw new IllegalStateException("the draft is full");
    }
    of.draft.add(Type.packed(command, a, b));
    return of.draft.size;
  }

  /** Makes the draft of a type the latest version of its code; returns the version's number. */
  public int deploy(int type) throws IndexOutOfBoundsException, IllegalStateException {
    Type of = typeAt(type);
    if (of.draft.size == 0 || of.versions.size() >= MOST_VERSIONS) {
      throw new IllegalStateException("the draft is empty, or there are too many versions");
    }
    of.draftBecomesVersion();
    return of.versions.size() - 1;
  }

  /** Sets what holds for a kind of activities. */
  public void setKind(int kind, int attempts, int pause, int toBegin, int toEnd, int beats)
      throws IndexOutOfBoundsException, IllegalArgumentException {
    Kind of = kindAt(kind);
    if (attempts < 1 || attempts > 4 || pause < 0 || pause > 20) {
      throw new IllegalArgumentException("attempts or pause is out of range");
    }
    if (toBegin < 0 || toBegin > 50 || toEnd < 0 || toEnd > 50 || beats < 0 || beats > 50) {
      throw new IllegalArgumentException("a limit is out of range");
    }
    of.attempts = attempts;
    of.pause = pause;
    of.toBegin = toBegin;
    of.toEnd = toEnd;
    of.beats = beats;
  }

  /** Sets the policy for runs of a type whose parent is closed; returns the policy before. */
  public int setPolicy(int type, int policy) throws IndexOutOfBoundsException, IllegalArgumentException {
    Type of = typeAt(type);
    if (policy < Type.LEAVE || policy > Type.STOP) {
      throw new IllegalArgumentException("policy is out of range");
    }
    int before = of.policy;
    of.policy = policy;
    return before;
  }

  // ---- runs

  /** Begins a run; returns its number. */
  public int begin(int type, int tenant, int input)
      throws IndexOutOfBoundsException, IllegalArgumentException, IllegalStateException {
    Type of = typeAt(type);
    checkTenant(tenant);
    checkValue(input);
    if (of.versions.isEmpty() || allRuns.size() >= MOST_RUNS) {
      throw new IllegalStateException("no version, or no room for a run");
    }
    return startRun(type, tenant, input, -1, 0).number;
  }

  /** Sends a run a signal; returns the number of the event. */
  public int signal(int run, int name, int value)
      throws IndexOutOfBoundsException, IllegalArgumentException, IllegalStateException {
    Run to = runAt(run);
    checkName(name);
    checkValue(value);
    if (!to.isAlive() || to.history.size >= MOST_EVENTS) {
      throw new IllegalStateException("the run takes no signal");
    }
    arrive(to, History.SIGNAL, name, value);
    return to.history.size - 1;
  }

  /** Sends a run a signal if a branch waits for it; returns whether it was sent. */
  public boolean update(int run, int name, int value)
      throws IndexOutOfBoundsException, IllegalArgumentException, IllegalStateException {
    Run to = runAt(run);
    checkName(name);
    checkValue(value);
    if (to.status != OPEN || to.history.size >= MOST_EVENTS) {
      throw new IllegalStateException("the run takes no update");
    }
    boolean isSafe = machine.follow(to, codeOf(to, to.version), to.history.counted, Machine.REPLAY);
    if (!isSafe || to.history.hasNewSignal(name) || !machine.state.waitsForSignal(name)) {
      return false;
    }
    arrive(to, History.SIGNAL, name, value);
    return true;
  }

  /** Cancels a run; returns whether CANCEL comes to it. */
  public boolean cancel(int run) throws IndexOutOfBoundsException, IllegalStateException {
    Run of = runAt(run);
    if (!of.isAlive()) {
      throw new IllegalStateException("the run is closed");
    }
    return cancelRun(of);
  }

  /** Returns a variable of a run behind its last TASK. */
  public int query(int run, int variable) throws IndexOutOfBoundsException, IllegalStateException {
    Run of = runAt(run);
    checkVariable(variable);
    if (!machine.follow(of, codeOf(of, of.version), of.history.counted, Machine.REPLAY)) {
      throw new IllegalStateException("its version is not safe for it");
    }
    return machine.state.value(variable);
  }

  /** Returns the same, found without looking at what the command events are, but for patches. */
  public int plain(int run, int variable) throws IndexOutOfBoundsException, IllegalStateException {
    Run of = runAt(run);
    checkVariable(variable);
    if (!machine.follow(of, codeOf(of, of.version), of.history.counted, Machine.REPLAY)) {
      throw new IllegalStateException("its version is not safe for it");
    }
    machine.follow(of, codeOf(of, of.version), of.history.counted, Machine.PLAIN);
    return machine.state.value(variable);
  }

  /** Returns 10 times the run's events, and how it stands. */
  public int standing(int run) throws IndexOutOfBoundsException {
    Run of = runAt(run);
    return 10 * of.history.size + of.status;
  }

  /** Returns an event: 1000000 times its kind, 1000 times x, and y. */
  public int event(int run, int event) throws IndexOutOfBoundsException {
    Run of = runAt(run);
    if (event < 0 || event >= of.history.size) {
      throw new IndexOutOfBoundsException("no such event");
    }
    return 1000000 * of.history.kind(event) + 1000 * of.history.x(event) + of.history.y(event);
  }

  /** Returns the difference of a run that is STUCK; -1 if it spins. */
  public int difference(int run) throws IndexOutOfBoundsException, IllegalStateException {
    Run of = runAt(run);
    if (of.status != STUCK) {
      throw new IllegalStateException("the run is not STUCK");
    }
    return of.difference;
  }

  /** Returns how many runs there are. */
  public int runs() {
    return allRuns.size();
  }

  // ---- workers

  /** Sets the rate of tasks; returns the rate before. */
  public int setRate(int rate) throws IllegalArgumentException {
    if (rate < 1 || rate > 10) {
      throw new IllegalArgumentException("rate is out of range");
    }
    int before = this.rate;
    this.rate = rate;
    return before;
  }

  /** Lets a worker ask for a task; returns 100 times its number, and the run, or -1. */
  public int poll(int worker) throws IndexOutOfBoundsException {
    checkWorker(worker);
    Run next = null;
    for (int tenant = 0; tenant < TENANTS; tenant++) {
      Run first = firstRunWithWork(tenant);
      if (first != null && givenNow[tenant] < rate
          && (next == null || given[tenant] < givenTo(next.tenant))) {
        next = first;
      }
    }
    if (next == null) {
      return -1;
    }
    countGiven(next.tenant);
    Task task = new Task(worker, next, time);
    next.lastTask = allTasks.size();
    allTasks.add(task);
    return 100 * next.lastTask + next.number;
  }

  /** Completes a task; returns how many new commands come of it, -1 if stale, -2 if STUCK. */
  public int complete(int task) throws IndexOutOfBoundsException {
    if (task < 0 || task >= allTasks.size()) {
      throw new IndexOutOfBoundsException("no such task");
    }
    Task done = allTasks.get(task);
    Run run = done.run;
    boolean stale = isStale(done);
    done.over = true;
    if (stale) {
      return -1;
    }
    boolean goesOn = run.isKeptBy(done.worker);
    if (!goesOn) {
      countReplay(done.worker);
    }
    int way = goesOn ? Machine.GO_ON : Machine.REPLAY;
    if (!machine.follow(run, codeOf(run, run.version), done.arrivals, way) || machine.isLeft()) {
      run.status = STUCK;
      run.difference = machine.difference;
      return -2;
    }
    int first = run.history.size;
    int many = putNews(run, done, goesOn);
    for (int i = first; i < first + many && i < run.history.size; i++) {
      carryOut(run, i);
    }
    return many;
  }

  /** Lets a worker die; returns how many of its tasks were not over. */
  public int die(int worker) throws IndexOutOfBoundsException {
    checkWorker(worker);
    int many = 0;
    for (int i = 0; i < allTasks.size(); i++) {
      Task task = allTasks.get(i);
      if (task.worker == worker && !task.over) {
        task.over = true;
        many++;
      }
    }
    for (int i = 0; i < allRuns.size(); i++) {
      Run run = allRuns.get(i);
      run.keeper = run.keeper == worker ? -1 : run.keeper;
    }
    return many;
  }

  /** Returns how often a worker replayed a run. */
  public int replays(int worker) throws IndexOutOfBoundsException {
    checkWorker(worker);
    return replayed[worker];
  }

  // ---- activities and time

  /** Takes an activity for an attempt; returns 1000 times its number, and its input, or -1. */
  public int take(int kind) throws IndexOutOfBoundsException {
    kindAt(kind);
    for (int i = 0; i < allActivities.size(); i++) {
      Activity of = allActivities.get(i);
      if (of.kind == kind && of.state == Activity.WAITS && of.ready <= time) {
        of.beTaken(time);
        return 1000 * i + of.input;
      }
    }
    return -1;
  }

  /** Answers an activity; returns whether it was taken, and the run gets the answer. */
  public boolean answer(int activity, int answer)
      throws IndexOutOfBoundsException, IllegalArgumentException {
    Activity of = activityAt(activity);
    checkValue(answer);
    if (of.state != Activity.TAKEN) {
      return false;
    }
    of.state = Activity.OVER;
    arrive(of.run, History.ANSWER, of.event, answer);
    return true;
  }

  /** Tells that an attempt failed; returns whether the activity was taken. */
  public boolean fail(int activity, boolean isFinal) throws IndexOutOfBoundsException {
    Activity of = activityAt(activity);
    if (of.state != Activity.TAKEN) {
      return false;
    }
    failAttempt(of, isFinal);
    return true;
  }

  /** Lets a taken activity beat; returns the progress before, -1 if it is not taken. */
  public int beat(int activity, int progress)
      throws IndexOutOfBoundsException, IllegalArgumentException {
    Activity of = activityAt(activity);
    checkValue(progress);
    if (of.state != Activity.TAKEN) {
      return -1;
    }
    int before = of.progress;
    of.progress = progress;
    of.beatAt = time;
    return before;
  }

  /** Returns 100 times the activity's run, 10 times its attempts, and how it stands. */
  public int activity(int activity) throws IndexOutOfBoundsException {
    Activity of = activityAt(activity);
    return 100 * of.run.number + 10 * of.attempts + of.state;
  }

  /** Lets ticks pass; returns the time then. */
  public int pass(int ticks) throws IllegalArgumentException {
    if (ticks < 1 || ticks > 100) {
      throw new IllegalArgumentException("ticks is out of range");
    }
    for (int i = 0; i < ticks; i++) {
      beginTick();
      for (int run = 0; run < allRuns.size(); run++) {
        fireTimers(allRuns.get(run));
      }
      for (int activity = 0; activity < allActivities.size(); activity++) {
        lookAtActivity(allActivities.get(activity));
      }
      for (int schedule = 0; schedule < allSchedules.size(); schedule++) {
        lookAtSchedule(allSchedules.get(schedule));
      }
    }
    return time;
  }

  // ---- other code, other histories

  /** Returns how many open runs of a type there are for which a version is not safe. */
  public int unsafe(int type, int version) throws IndexOutOfBoundsException {
    checkVersion(typeAt(type), version);
    int many = 0;
    for (int i = 0; i < allRuns.size(); i++) {
      Run run = allRuns.get(i);
      if (run.type == type && run.status == OPEN
          && !machine.follow(run, codeOf(run, version), run.history.counted, Machine.REPLAY)) {
        many++;
      }
    }
    return many;
  }

  /** Moves a run to a version; returns whether that is safe for it. */
  public boolean move(int run, int version) throws IndexOutOfBoundsException, IllegalStateException {
    Run of = runAt(run);
    checkVersion(typeAt(of.type), version);
    if (!of.isAlive()) {
      throw new IllegalStateException("the run is closed");
    }
    of.version = version;
    of.status = OPEN;
    return machine.follow(of, codeOf(of, version), of.history.counted, Machine.REPLAY);
  }

  /** Sets a run back to one of its tasks; returns the number of the new run. */
  public int setBack(int run, int task) throws IndexOutOfBoundsException, IllegalStateException {
    Run old = runAt(run);
    int end = old.history.taskAt(task);
    if (end < 0) {
      throw new IndexOutOfBoundsException("no such TASK");
    }
    if (!old.isAlive() || allRuns.size() >= MOST_RUNS) {
      throw new IllegalStateException("the run is closed, or there is no room for another");
    }
    Run made = addRun(old.type, old.tenant, old.version, old.parent, old.parentEvent);
    old.status = STOPPED;
    made.history.becomeFirst(old.history, end + 1);
    endWork(old);
    partFromChildren(old.number, 0);
    restoreWork(made);
    sendSignals(made, old.history, end + 1);
    return made.number;
  }

  /** Copies events of a run to the other site; returns how many are copied then in all. */
  public int copy(int run, int events) throws IndexOutOfBoundsException, IllegalArgumentException {
    Run of = runAt(run);
    if (events < 1 || events > 100) {
      throw new IllegalArgumentException("events is out of range");
    }
    of.copied = Math.min(of.history.size, of.copied + events);
    return of.copied;
  }

  /** Lets the other site take over; returns how many events of open runs are lost by that. */
  public int takeOver() throws IllegalStateException {
    if (!joined) {
      throw new IllegalStateException("the sites are not joined");
    }
    joined = false;
    int many = 0;
    for (int i = 0; i < allRuns.size(); i++) {
      Run run = allRuns.get(i);
      if (run.status == OPEN) {
        many += loseEvents(run);
      }
    }
    for (int i = 0; i < allRuns.size(); i++) {
      Run run = allRuns.get(i);
      if (run.status == OPEN && run.copied == 0) {
        closeRun(run, STOPPED, 0, 0);
      }
    }
    for (int i = 0; i < allRuns.size(); i++) {
      Run run = allRuns.get(i);
      if (run.status == OPEN) {
        restoreWork(run);
      }
    }
    return many;
  }

  /** Joins the sites; returns how many signals come to runs by that. */
  public int join() throws IllegalStateException {
    if (joined) {
      throw new IllegalStateException("nobody has taken over");
    }
    joined = true;
    int many = 0;
    for (int i = 0; i < allRuns.size(); i++) {
      Run run = allRuns.get(i);
      for (int k = 0; k < run.lost.size && run.status == OPEN; k++) {
        int signal = run.lost.at(k);
        arrive(run, History.SIGNAL, signal / 1000, signal % 1000);
        many++;
      }
      run.lost.cut(0);
    }
    return many;
  }

  // ---- schedules and the search

  /** Makes a schedule; returns its number. */
  public int schedule(int type, int tenant, int period, int overlap)
      throws IndexOutOfBoundsException, IllegalArgumentException, IllegalStateException {
    Type of = typeAt(type);
    checkTenant(tenant);
    if (period < 1 || period > 50 || overlap < Schedule.SKIP || overlap > Schedule.BOTH) {
      throw new IllegalArgumentException("period or overlap is out of range");
    }
    if (of.versions.isEmpty() || allSchedules.size() >= MOST_SCHEDULES) {
      throw new IllegalStateException("no version, or no room for a schedule");
    }
    allSchedules.add(new Schedule(type, tenant, period, overlap, time + offset));
    return allSchedules.size() - 1;
  }

  /** Pauses a schedule, or lets it go on; returns whether it is paused then. */
  public boolean togglePause(int schedule) throws IndexOutOfBoundsException {
    Schedule of = scheduleAt(schedule);
    of.paused = !of.paused;
    return of.paused;
  }

  /** Begins runs of a schedule with the last points as inputs; returns how many are begun. */
  public int backfill(int schedule, int many) throws IndexOutOfBoundsException, IllegalArgumentException {
    Schedule of = scheduleAt(schedule);
    if (many < 1 || many > 5) {
      throw new IllegalArgumentException("many is out of range");
    }
    int points = of.pointsSoFar();
    int wanted = Math.min(many, points);
    int begun = 0;
    for (int i = points - wanted + 1; i <= points && allRuns.size() < MOST_RUNS; i++) {
      startRun(of.type, of.tenant, Math.floorMod(i * of.period, 1000), -1, 0);
      begun++;
    }
    return begun;
  }

  /** Shifts the local time; returns the local time then. */
  public int shift(int by) throws IllegalArgumentException {
    if (by < -20 || by > 20) {
      throw new IllegalArgumentException("by is out of range");
    }
    offset += by;
    return time + offset;
  }

  /** Brings tags into the search; returns how many are left in the queue. */
  public int bringIn(int many) throws IllegalArgumentException {
    if (many < 1 || many > 100) {
      throw new IllegalArgumentException("many is out of range");
    }
    for (int i = 0; i < many && tagsKnown < tagsPut; i++) {
      int entry = tagQueue.at(tagsKnown);
      int run = entry / 1000;
      if (run >= 0 && run < allRuns.size()) {
        allRuns.get(run).tag = entry % 1000;
      }
      tagsKnown++;
    }
    return tagsPut - tagsKnown;
  }

  /** Returns the runs whose tag it is as the search knows it: bit r for the run r. */
  public int search(int tag) throws IllegalArgumentException {
    checkValue(tag);
    int found = 0;
    for (int i = 0; i < allRuns.size() && i < MOST_RUNS; i++) {
      if (allRuns.get(i).tag == tag) {
        found |= 1 << i;
      }
    }
    return found;
  }

  // ---- what exists

  private Type typeAt(int type) {
    if (type < 0 || type >= types.length) {
      throw new IndexOutOfBoundsException("no such type");
    }
    return types[type];
  }

  private Kind kindAt(int kind) {
    if (kind < 0 || kind >= kinds.length) {
      throw new IndexOutOfBoundsException("no such kind");
    }
    return kinds[kind];
  }

  private Run runAt(int run) {
    if (run < 0 || run >= allRuns.size()) {
      throw new IndexOutOfBoundsException("no such run");
    }
    return allRuns.get(run);
  }

  private Activity activityAt(int activity) {
    if (activity < 0 || activity >= allActivities.size()) {
      throw new IndexOutOfBoundsException("no such activity");
    }
    return allActivities.get(activity);
  }

  private Schedule scheduleAt(int schedule) {
    if (schedule < 0 || schedule >= allSchedules.size()) {
      throw new IndexOutOfBoundsException("no such schedule");
    }
    return allSchedules.get(schedule);
  }

  private void checkVersion(Type of, int version) {
    if (version < 0 || version >= of.versions.size()) {
      throw new IndexOutOfBoundsException("no such version");
    }
  }

  private void checkTenant(int tenant) {
    if (tenant < 0 || tenant >= TENANTS) {
      throw new IndexOutOfBoundsException("no such tenant");
    }
  }

  private void checkWorker(int worker) {
    if (worker < 0 || worker >= replayed.length) {
      throw new IndexOutOfBoundsException("no such worker");
    }
  }

  private void checkName(int name) {
    if (name < 0 || name >= NAMES) {
      throw new IndexOutOfBoundsException("no such name");
    }
  }

  private void checkVariable(int variable) {
    if (variable < 0 || variable >= VARIABLES) {
      throw new IndexOutOfBoundsException("no such variable");
    }
  }

  private void checkValue(int value) {
    if (value < 0 || value > TOP) {
      throw new IllegalArgumentException("a value is out of range");
    }
  }

  private Type typeOf(Run run) {
    return types[Math.floorMod(run.type, types.length)];
  }

  private Row codeOf(Run run, int version) {
    return typeOf(run).code(version);
  }

  // ---- how runs begin, hear, and are closed

  private Run addRun(int type, int tenant, int version, int parent, int parentEvent) {
    Run run = new Run(allRuns.size(), type, tenant, version, parent, parentEvent);
    allRuns.add(run);
    return run;
  }

  private Run startRun(int type, int tenant, int input, int parent, int parentEvent) {
    int latest = types[Math.floorMod(type, types.length)].versions.size() - 1;
    Run run = addRun(type, tenant, latest, parent, parentEvent);
    arrive(run, History.START, input, 0);
    return run;
  }

  private void arrive(Run run, int kind, int x, int y) {
    run.history.put(kind, x, y, time, arrivalsSoFar);
    arrivalsSoFar++;
  }

  private boolean cancelRun(Run run) {
    if (run.history.has(History.CANCEL)) {
      return false;
    }
    arrive(run, History.CANCEL, 0, 0);
    return true;
  }

  private void closeRun(Run run, int status, int result, int depth) {
    run.status = status;
    endWork(run);
    dealWithChildren(run, depth);
    Run parent = parentOf(run);
    if (parent == null || !parent.isAlive()) {
      return;
    }
    if (status == DONE) {
      arrive(parent, History.RESULT, run.parentEvent, result);
    } else {
      arrive(parent, History.BROKEN, run.parentEvent, 0);
    }
  }

  private Run parentOf(Run run) {
    return run.parent >= 0 && run.parent < allRuns.size() ? allRuns.get(run.parent) : null;
  }

  private void dealWithChildren(Run run, int depth) {
    for (int i = 0; i < allRuns.size(); i++) {
      Run child = allRuns.get(i);
      if (child.parent != run.number || child.status != OPEN) {
        continue;
      }
      int policy = typeOf(child).policy;
      if (policy == Type.CANCEL) {
        cancelRun(child);
      } else if (policy == Type.STOP && depth < MOST_DEPTH) {
        closeRun(child, STOPPED, 0, depth + 1);
      }
    }
  }

  /** The run's activities and timers are over. */
  private void endWork(Run run) {
    for (int i = 0; i < allActivities.size(); i++) {
      Activity activity = allActivities.get(i);
      if (activity.run == run) {
        activity.state = Activity.OVER;
      }
    }
    run.timers.cut(0);
    run.dues.cut(0);
  }

  /** The children that events from the one told on have begun have no parent any more. */
  private void partFromChildren(int parent, int from) {
    for (int i = 0; i < allRuns.size(); i++) {
      Run child = allRuns.get(i);
      if (child.parent == parent && child.parentEvent >= from) {
        child.parent = -1;
      }
    }
  }

  // ---- tasks

  private Run firstRunWithWork(int tenant) {
    Run first = null;
    for (int i = 0; i < allRuns.size(); i++) {
      Run run = allRuns.get(i);
      if (run.tenant == tenant && run.hasWork() && !isHeld(run)
          && (first == null || run.firstOrder() < first.firstOrder())) {
        first = run;
      }
    }
    return first;
  }

  private boolean isHeld(Run run) {
    if (run.lastTask < 0 || run.lastTask >= allTasks.size()) {
      return false;
    }
    Task task = allTasks.get(run.lastTask);
    return !task.over && time - task.givenAt < HELD_TICKS;
  }

  private int givenTo(int tenant) {
    return tenant >= 0 && tenant < given.length ? given[tenant] : 0;
  }

  private void countGiven(int tenant) {
    if (tenant >= 0 && tenant < given.length && tenant < givenNow.length) {
      given[tenant]++;
      givenNow[tenant]++;
    }
  }

  private boolean isStale(Task task) {
    Run run = task.run;
    return task.over || run.status != OPEN || run.mark() != task.mark;
  }

  private void countReplay(int worker) {
    if (worker >= 0 && worker < replayed.length) {
      replayed[worker]++;
    }
  }

  /** Puts the new commands and a TASK behind them; returns how many new commands there are. */
  private int putNews(Run run, Task task, boolean goesOn) {
    if (!goesOn) {
      run.seenEvents = run.history.size;
      run.seenCounted = run.history.counted;
    }
    History news = machine.news;
    for (int i = 0; i < news.size; i++) {
      run.history.put(news.kind(i), news.x(i), news.y(i), time, 0);
    }
    run.history.put(History.TASK, task.arrivals, 0, time, 0);
    run.keeper = task.worker;
    run.keptMark = run.mark();
    machine.knows(run);
    return news.size;
  }

  // ---- what new commands do

  private void carryOut(Run run, int event) {
    int x = run.history.x(event);
    int y = run.history.y(event);
    switch (run.history.kind(event)) {
      case History.ACTIVITY:
        makeActivity(run, event, x, y);
        break;
      case History.TIMER:
        run.addTimer(event, time + x);
        break;
      case History.CHILD:
        beginChild(run, event, x, y);
        break;
      case History.DROP:
        dropEvent(run, x);
        break;
      case History.TAG:
        queueTag(run, x);
        break;
      case History.DONE:
        closeRun(run, DONE, x, 0);
        break;
      case History.FAIL:
        closeRun(run, machine.state.cancelTaken ? CANCELLED : FAILED, 0, 0);
        break;
      case History.AGAIN:
        if (allRuns.size() < MOST_RUNS) {
          goOnAsNew(run, x);
        } else {
          closeRun(run, FAILED, 0, 0);
        }
        break;
      default:
        break;
    }
  }

  private void queueTag(Run run, int tag) {
    if (tagQueue.size < MOST_TAGS) {
      tagQueue.add(run.number * 1000 + tag);
    }
    tagsPut++;
  }

  private void makeActivity(Run run, int event, int kind, int input) {
    if (allActivities.size() >= MOST_ACTIVITIES) {
      arrive(run, History.FAILED, event, 0);
    } else {
      allActivities.add(new Activity(run, event, kind, input, time));
    }
  }

  private void beginChild(Run run, int event, int type, int input) {
    if (allRuns.size() >= MOST_RUNS || types[Math.floorMod(type, types.length)].versions.isEmpty()) {
      arrive(run, History.BROKEN, event, 0);
    } else {
      startRun(type, run.tenant, input, run.number, event);
    }
  }

  private void dropEvent(Run run, int event) {
    for (int i = 0; i < allActivities.size(); i++) {
      Activity activity = allActivities.get(i);
      if (activity.run == run && activity.event == event) {
        activity.state = Activity.OVER;
      }
    }
    run.dropTimer(event);
    for (int i = 0; i < allRuns.size(); i++) {
      Run child = allRuns.get(i);
      if (child.parent == run.number && child.parentEvent == event) {
        if (child.status == OPEN) {
          cancelRun(child);
        }
        child.parent = -1;
      }
    }
  }

  private void goOnAsNew(Run run, int input) {
    run.status = CONTINUED;
    Run made = startRun(run.type, run.tenant, input, run.parent, run.parentEvent);
    for (int name = 0; name < NAMES; name++) {
      Row queue = machine.state.queue(name);
      for (int i = 0; i < queue.size; i++) {
        arrive(made, History.SIGNAL, name, queue.at(i));
      }
    }
    sendSignals(made, run.history, machine.state.arrivalAt);
    endWork(run);
    dealWithChildren(run, 0);
  }

  /** The signals of a history from an event on come to a run, in order. */
  private void sendSignals(Run to, History history, int from) {
    int size = history.size;
    for (int i = from; i < size; i++) {
      if (history.kind(i) == History.SIGNAL) {
        arrive(to, History.SIGNAL, history.x(i), history.y(i));
      }
    }
  }

  // ---- other histories

  /** Cuts what was not copied off a run's history; returns how many events that are. */
  private int loseEvents(Run run) {
    History history = run.history;
    int many = history.size - run.copied;
    for (int i = run.copied; i < history.size; i++) {
      if (history.kind(i) == History.SIGNAL) {
        run.lost.add(1000 * history.x(i) + history.y(i));
      }
    }
    if (many > 0) {
      history.cut(run.copied);
      run.cuts++;
    }
    partFromChildren(run.number, run.copied);
    endWork(run);
    return many;
  }

  /** Makes the activities and timers that a history has commanded and that did not end in it. */
  private void restoreWork(Run run) {
    History history = run.history;
    int size = history.size;
    for (int i = 0; i < size; i++) {
      int kind = history.kind(i);
      if ((kind != History.ACTIVITY && kind != History.TIMER) || history.hasEnded(i)) {
        continue;
      }
      if (kind == History.ACTIVITY) {
        makeActivity(run, i, history.x(i), history.y(i));
      } else {
        run.addTimer(i, Math.max(history.timeOfCommand(i) + history.x(i), time + 1));
      }
    }
  }

  // ---- time

  private void beginTick() {
    time++;
    for (int tenant = 0; tenant < givenNow.length; tenant++) {
      givenNow[tenant] = 0;
    }
  }

  private void fireTimers(Run run) {
    int many = run.timers.size;
    int place = 0;
    for (int i = 0; i < many; i++) {
      if (run.dues.at(place) > time) {
        place++;
      } else {
        arrive(run, History.FIRED, run.timers.at(place), 0);
        run.timers.removeAt(place);
        run.dues.removeAt(place);
      }
    }
  }

  private void lookAtActivity(Activity activity) {
    Kind kind = kinds[Math.floorMod(activity.kind, kinds.length)];
    if (activity.state == Activity.WAITS && activity.attempts == 0) {
      if (isReached(kind.toBegin, activity.madeAt)) {
        activity.state = Activity.OVER;
        arrive(activity.run, History.FAILED, activity.event, 0);
      }
    } else if (activity.state == Activity.TAKEN) {
      if (isReached(kind.toEnd, activity.takenAt) || isReached(kind.beats, activity.beatAt)) {
        failAttempt(activity, false);
      }
    }
  }

  private boolean isReached(int limit, int since) {
    return limit > 0 && time - since >= limit;
  }

  private void failAttempt(Activity activity, boolean isFinal) {
    Kind kind = kinds[Math.floorMod(activity.kind, kinds.length)];
    if (!isFinal && activity.attempts < kind.attempts) {
      activity.state = Activity.WAITS;
      activity.ready = time + kind.pause;
    } else {
      activity.state = Activity.OVER;
      arrive(activity.run, History.FAILED, activity.event, 0);
    }
  }

  private void lookAtSchedule(Schedule of) {
    if (of.waiting && !lastIsOpen(of)) {
      of.waiting = false;
      startFor(of, of.waitingInput);
    }
    int local = time + offset;
    for (int at = of.lookedTo + 1; at <= local; at++) {
      if (of.isPoint(at) && !of.paused) {
        meetPoint(of, Math.floorMod(at, 1000));
      }
    }
    of.lookedTo = Math.max(of.lookedTo, local);
  }

  private void meetPoint(Schedule of, int input) {
    if (!lastIsOpen(of) || of.overlap == Schedule.BOTH) {
      startFor(of, input);
    } else if (of.overlap == Schedule.WAIT) {
      if (!of.waiting) {
        of.waiting = true;
        of.waitingInput = input;
      }
    } else if (of.overlap == Schedule.CANCEL) {
      cancelRun(allRuns.get(of.lastRun));
      startFor(of, input);
    }
  }

  private boolean lastIsOpen(Schedule of) {
    return of.lastRun >= 0 && of.lastRun < allRuns.size() && allRuns.get(of.lastRun).status == OPEN;
  }

  private void startFor(Schedule of, int input) {
    if (allRuns.size() < MOST_RUNS) {
      of.lastRun = startRun(of.type, of.tenant, input, -1, 0).number;
    }
  }

  /** A row of numbers that grows by parts: what is there is never moved, and parts can be shared. */
  private static final class Row {
    private static final int PART_AT = 6, PART = 1 << PART_AT, WITHIN = PART - 1;

    private long[][] parts = new long[1][];
    /** How many parts, the first ones, another row has as well: they are not written into. */
    private int shared = 0;
    int size = 0;

    long wide(int place) {
      int part = place >> PART_AT;
      int within = place & WITHIN;
      if (place < 0 || place >= size || part >= parts.length || parts[part] == null
          || within >= parts[part].length) {
        return 0;
      }
      return parts[part][within];
    }

    int at(int place) {
      return (int) wide(place);
    }

    void add(long value) {
      int part = size >> PART_AT;
      int within = size & WITHIN;
      if (part >= parts.length) {
        long[][] more = new long[2 * parts.length][];
        for (int i = 0; i < parts.length && i < more.length; i++) {
          more[i] = parts[i];
        }
        parts = more;
      }
      if (part >= parts.length) {
        return;
      }
      if (parts[part] == null) {
        parts[part] = new long[PART];
      }
      if (within < parts[part].length) {
        parts[part][within] = value;
        size++;
      }
    }

    void removeAt(int place) {
      if (place < 0 || place >= size) {
        return;
      }
      for (int i = place + 1; i < size; i++) {
        put(i - 1, wide(i));
      }
      size--;
    }

    private void put(int place, long value) {
      int part = place >> PART_AT;
      int within = place & WITHIN;
      if (place >= 0 && place < size && part < parts.length && parts[part] != null
          && within < parts[part].length) {
        parts[part][within] = value;
      }
    }

    /** Leaves the first numbers alone. The row's own parts behind them are used again. */
    void cut(int many) {
      size = Math.min(size, Math.max(0, many));
      int full = size >> PART_AT;
      for (int i = full; i < shared && i < parts.length; i++) {
        boolean isBegun = i == full && (size & WITHIN) > 0 && parts[i] != null;
        parts[i] = isBegun ? Arrays.copyOf(parts[i], PART) : null;
      }
      shared = Math.min(shared, full);
    }

    /** Becomes the first numbers of another row, which is never changed any more. */
    void becomeFirst(Row other, int many) {
      int end = Math.min(other.size, Math.max(0, many));
      int full = Math.min(end >> PART_AT, other.parts.length);
      parts = new long[full + 1][];
      for (int i = 0; i < full; i++) {
        parts[i] = other.parts[i];
      }
      shared = full;
      size = full << PART_AT;
      for (int i = size; i < end; i++) {
        add(other.wide(i));
      }
    }
  }

  /**
   * The events of a run, each in one number: its kind, x, y, and, of a command, the time, of an arrival its
   * place among all arrivals that came so far, and the time by 1000.
   */
  private static final class History {
    static final int START = 0, ANSWER = 1, FAILED = 2, FIRED = 3, SIGNAL = 4, RESULT = 5, BROKEN = 6;
    static final int CANCEL = 7, ACTIVITY = 8, TIMER = 9, CHILD = 10, DROP = 11, PATCH = 12, TAG = 13;
    static final int DONE = 14, FAIL = 15, AGAIN = 16, TASK = 17;
    private static final int KIND_AT = 59, X_AT = 40, Y_AT = 30, ORDER_AT = 10;
    private static final int X_MASK = (1 << KIND_AT - X_AT) - 1, Y_MASK = (1 << X_AT - Y_AT) - 1;
    private static final int LAST_MASK = (1 << Y_AT) - 1;
    private static final int ORDER_MASK = (1 << Y_AT - ORDER_AT) - 1, CLOCK_MASK = (1 << ORDER_AT) - 1;

    private final Row events;
    int size = 0;
    int arrivals = 0;
    int tasks = 0;
    /** How many arrivals the last TASK counts. */
    int counted = 0;

    History(Row events) {
      this.events = events;
    }

    int kind(int event) {
      return (int) (events.wide(event) >>> KIND_AT);
    }

    int x(int event) {
      return (int) (events.wide(event) >>> X_AT) & X_MASK;
    }

    int y(int event) {
      return (int) (events.wide(event) >>> Y_AT) & Y_MASK;
    }

    int timeOfCommand(int event) {
      return (int) events.wide(event) & LAST_MASK;
    }

    int clockOfArrival(int event) {
      return (int) events.wide(event) & CLOCK_MASK;
    }

    int orderOfArrival(int event) {
      return (int) (events.wide(event) >>> ORDER_AT) & ORDER_MASK;
    }

    void put(int kind, int x, int y, int time, int order) {
      int last = time;
      if (kind <= CANCEL) {
        last = (order & ORDER_MASK) << ORDER_AT | time % 1000;
      }
      events.add((long) kind << KIND_AT | (long) (x & X_MASK) << X_AT | (long) (y & Y_MASK) << Y_AT
          | last & LAST_MASK);
      size = events.size;
      if (kind <= CANCEL) {
        arrivals++;
      } else if (kind == TASK) {
        tasks++;
        counted = x;
      }
    }

    /** Leaves the first events alone. */
    void cut(int many) {
      events.cut(many);
      countAgain();
    }

    /** Becomes the first events of another history, which is never changed any more. */
    void becomeFirst(History other, int many) {
      events.becomeFirst(other.events, many);
      countAgain();
    }

    private void countAgain() {
      size = events.size;
      arrivals = 0;
      tasks = 0;
      counted = 0;
      for (int i = 0; i < size; i++) {
        int kind = kind(i);
        if (kind <= CANCEL) {
          arrivals++;
        } else if (kind == TASK) {
          tasks++;
          counted = x(i);
        }
      }
    }

    boolean has(int kind) {
      for (int i = 0; i < size; i++) {
        if (kind(i) == kind) {
          return true;
        }
      }
      return false;
    }

    boolean is(int event, int kind, int x, int y) {
      long wanted = (long) kind << KIND_AT - Y_AT | (long) (x & X_MASK) << X_AT - Y_AT | (y & Y_MASK);
      return event >= 0 && event < size && events.wide(event) >>> Y_AT == wanted;
    }

    /** The next arrival from an event on; the size if there is none. */
    int nextArrival(int from) {
      int at = Math.max(0, from);
      while (at < size && events.wide(at) >>> KIND_AT > CANCEL) {
        at++;
      }
      return at;
    }

    /** The next command from an event on; the size if there is none. */
    int nextCommand(int from) {
      int at = Math.max(0, from);
      while (at < size && (events.wide(at) >>> KIND_AT <= CANCEL || events.wide(at) >>> KIND_AT == TASK)) {
        at++;
      }
      return at;
    }

    /** The first TASK that counts more arrivals than so many; the size if there is none. */
    int taskBeyond(int taken) {
      int at = 0;
      while (at < size && (events.wide(at) >>> KIND_AT != TASK
          || ((int) (events.wide(at) >>> X_AT) & X_MASK) <= taken)) {
        at++;
      }
      return at;
    }

    /** The TASK with a number, from 0 on; -1 if there is none. */
    int taskAt(int number) {
      int seen = 0;
      for (int i = 0; i < size; i++) {
        if (kind(i) == TASK) {
          if (seen == number) {
            return i;
          }
          seen++;
        }
      }
      return -1;
    }

    /** The first arrival that no TASK counts; the size if there is none. */
    int firstNew() {
      int seen = 0;
      for (int i = 0; i < size; i++) {
        if (kind(i) <= CANCEL) {
          if (seen >= counted) {
            return i;
          }
          seen++;
        }
      }
      return size;
    }

    boolean hasNewSignal(int name) {
      for (int i = firstNew(); i < size; i++) {
        if (kind(i) == SIGNAL && x(i) == name) {
          return true;
        }
      }
      return false;
    }

    /** Whether what an event has commanded was answered, failed, fired or was dropped. */
    boolean hasEnded(int event) {
      for (int i = event + 1; i < size; i++) {
        int kind = kind(i);
        if (x(i) == event && (kind == ANSWER || kind == FAILED || kind == FIRED || kind == DROP)) {
          return true;
        }
      }
      return false;
    }
  }

  /** A type of runs: the versions of its code, and what becomes of its runs with their parent. */
  private static final class Type {
    static final int LEAVE = 0, CANCEL = 1, STOP = 2;

    final ArrayList<Row> versions = new ArrayList<Row>();
    Row draft = new Row();
    int policy = LEAVE;

    /** A line in one number. */
    static int packed(int command, int a, int b) {
      return command * 1000000 + a * 1000 + b;
    }

    Row code(int version) {
      return version >= 0 && version < versions.size() ? versions.get(version) : draft;
    }

    void draftBecomesVersion() {
      versions.add(draft);
      draft = new Row();
    }
  }

  /** What holds for a kind of activities. */
  private static final class Kind {
    int attempts = 3;
    int pause = 2;
    int toBegin = 0;
    int toEnd = 0;
    int beats = 0;
  }

  /** A branch of a run. */
  private static final class Branch {
    static final int GOES = 0, FOR_EVENT = 1, FOR_UNDOING = 2, FOR_SIGNAL = 3, FOR_CHILDREN = 4;

    int number = 0;
    int parent = -1;
    /** The nearest branch above it that is there: the parent, or, when that has ended, the parent's. */
    int above = -1;
    int rival = -1;
    int line = 0;
    int shields = 0;
    /** Whether it was told of CANCEL behind a shield. */
    boolean owed = false;
    int waits = GOES;
    int waitsFor = 0;
    boolean doomed = false;
    /** The stack of its handlers. */
    int handlers = 0;

    void start(int number, int parent, int line) {
      this.number = number;
      this.parent = parent;
      this.above = parent;
      this.rival = -1;
      this.line = line;
      this.shields = 0;
      this.owed = false;
      this.waits = GOES;
      this.waitsFor = 0;
      this.doomed = false;
      this.handlers = 0;
    }

    void waitFor(int what, int number) {
      waits = what;
      waitsFor = number;
    }

    void goOnAt(int line) {
      waits = GOES;
      this.line = line;
    }

    /** Takes a shield off; returns whether the branch is to be cancelled by that. */
    boolean isBare() {
      shields = Math.max(0, shields - 1);
      boolean isCancelled = owed && shields == 0;
      owed = owed && !isCancelled;
      return isCancelled;
    }

    boolean waitsForEvent() {
      return waits == FOR_EVENT || waits == FOR_UNDOING;
    }
  }

  /** How a run stands behind some of its arrivals. */
  private static final class State {
    static final int MOST_BRANCHES = 12;
    private static final int VALUES = 10000;

    private final int[] variables = new int[VARIABLES];
    /** The branches that are there come first, by rising numbers; the others are free to be begun. */
    private final Branch[] branches = new Branch[MOST_BRANCHES];
    private final Row[] queues = new Row[NAMES];
    /** What all stacks hold: each number with the place of the one below it. */
    private final Row stacked = new Row();
    int compensations = 0;
    int there = 0;
    int begun = 0;
    int patches = 0;
    boolean cancelTaken = false;
    /** The kind of the event that closed the run; 0 as long as there is none. */
    int over = 0;
    int taken = 0;
    int arrivalAt = 0;
    int commandAt = 0;
    int taskAt = 0;

    State() {
      for (int i = 0; i < branches.length; i++) {
        branches[i] = new Branch();
      }
      for (int i = 0; i < queues.length; i++) {
        queues[i] = new Row();
      }
    }

    void clear() {
      Arrays.fill(variables, 0);
      for (int i = 0; i < queues.length; i++) {
        queues[i].cut(0);
      }
      stacked.cut(0);
      compensations = 0;
      there = 0;
      begun = 0;
      patches = 0;
      cancelTaken = false;
      over = 0;
      taken = 0;
      arrivalAt = 0;
      commandAt = 0;
      taskAt = 0;
    }

    /** Puts a number, 0 to 9999, on a stack, 0 for an empty one; returns the stack then. */
    int pushed(int stack, int value) {
      stacked.add((long) stack * VALUES + value);
      return stacked.size;
    }

    /** The number that was put on a stack last. */
    int top(int stack) {
      return (int) (stacked.wide(stack - 1) % VALUES);
    }

    /** A stack without its last number. */
    int popped(int stack) {
      return (int) (stacked.wide(stack - 1) / VALUES);
    }

    int value(int variable) {
      return variable >= 0 && variable < variables.length ? variables[variable] : 0;
    }

    void set(int variable, int value) {
      if (variable >= 0 && variable < variables.length) {
        variables[variable] = value;
      }
    }

    Row queue(int name) {
      return queues[Math.floorMod(name, queues.length)];
    }

    /** The branch at a place of the row; null behind those that are there. */
    Branch branchAt(int place) {
      return place >= 0 && place < there && place < branches.length ? branches[place] : null;
    }

    /** The branch with a number; null if it is not there. */
    Branch find(int number) {
      for (int i = 0; i < there && i < branches.length; i++) {
        if (branches[i].number == number) {
          return branches[i];
        }
      }
      return null;
    }

    /** Begins a branch, for which there has to be room; returns its number. */
    int beginBranch(int parent, int line) {
      int number = begun;
      if (there < branches.length) {
        branches[there].start(number, parent, line);
        there++;
        begun++;
      }
      return number;
    }

    /** A branch is there no more; those below it are below what was above it. */
    void remove(Branch gone) {
      int place = 0;
      while (place < there && place < branches.length && branches[place] != gone) {
        place++;
      }
      if (place >= there || place >= branches.length) {
        return;
      }
      for (int i = place + 1; i < there && i < branches.length; i++) {
        branches[i - 1] = branches[i];
      }
      there--;
      branches[there] = gone;
      for (int i = 0; i < there; i++) {
        if (branches[i].above == gone.number) {
          branches[i].above = gone.above;
        }
      }
    }

    /** The branch with the lowest number that can go on; null if none can. */
    Branch firstAble() {
      for (int i = 0; i < there && i < branches.length; i++) {
        if (isAble(branches[i])) {
          return branches[i];
        }
      }
      return null;
    }

    private boolean isAble(Branch branch) {
      switch (branch.waits) {
        case Branch.GOES:
          return true;
        case Branch.FOR_SIGNAL:
          return queue(branch.waitsFor).size > 0;
        case Branch.FOR_CHILDREN:
          return !isParent(branch.number);
        default:
          return false;
      }
    }

    private boolean isParent(int number) {
      for (int i = 0; i < there && i < branches.length; i++) {
        if (branches[i].parent == number) {
          return true;
        }
      }
      return false;
    }

    /** The branch that waits for what an event has commanded; null if none does. */
    Branch waiterFor(int event) {
      for (int i = 0; i < there && i < branches.length; i++) {
        if (branches[i].waitsForEvent() && branches[i].waitsFor == event) {
          return branches[i];
        }
      }
      return null;
    }

    boolean waitsForSignal(int name) {
      for (int i = 0; i < there && i < branches.length; i++) {
        if (branches[i].waits == Branch.FOR_SIGNAL && branches[i].waitsFor == name) {
          return true;
        }
      }
      return false;
    }

    /** Dooms a branch and all below it. A branch below another has a higher number. */
    void doom(Branch root) {
      root.doomed = true;
      for (int i = 0; i < there && i < branches.length; i++) {
        Branch above = find(branches[i].above);
        if (above != null && above.doomed) {
          branches[i].doomed = true;
        }
      }
    }
  }

  /** Takes the arrivals of a history by a code, and meets the commands that are in it. */
  private static final class Machine {
    static final int SET = 0, ADD = 1, ACT = 2, TIMER = 3, WAIT = 4, CHILD = 5, ZERO = 6, GOTO = 7;
    static final int PAR = 8, JOIN = 9, RACE = 10, WIN = 11, TRY = 12, OVER = 13, COMP = 14, UNDO = 15;
    static final int END = 16, FAIL = 17, AGAIN = 18, PATCH = 19, NOW = 20, SHIELD = 21, BARE = 22, TAG = 23;
    /** No arrival needs as many turns: its lines, and the ends and awakenings of branches. */
    private static final int MOST_TURNS = 1000;
    private static final int MOST_STEPS = 60;
    /** From the beginning; likewise, without looking at commands; from what a worker has kept. */
    static final int REPLAY = 0, PLAIN = 1, GO_ON = 2;

    final State state = new State();
    /** The new commands. */
    final History news = new History(new Row());
    private History history = news;
    private Row code = new Row();
    private int way = REPLAY;
    /** As long as fewer arrivals are taken, only so many events of the history are seen. */
    private int seenCounted = 0;
    private int seenEvents = 0;
    /** The run whose kept state the state is; null if it is none. */
    private Run known = null;
    /** The event that is being taken. */
    private int taking = 0;
    private int steps = 0;
    boolean stuck = false;
    int difference = -1;

    /**
     * Takes the arrivals of a run by a code until so many are taken; returns whether it is not STUCK by
     * that. What a worker has kept is found again, if another run was followed in between.
     */
    boolean follow(Run run, Row code, int limit, int way) {
      load(run, code, way);
      for (int i = state.taken; i < limit && goes(); i++) {
        taking = history.nextArrival(state.arrivalAt);
        if (taking >= history.size) {
          break;
        }
        state.arrivalAt = taking + 1;
        steps = 0;
        note(history.kind(taking), history.x(taking), history.y(taking));
        goOn();
        state.taken++;
        passTasks();
      }
      return !stuck;
    }

    private void load(Run run, Row code, int way) {
      history = run.history;
      this.code = code;
      this.way = way;
      seenCounted = way == GO_ON ? run.seenCounted : 0;
      seenEvents = run.seenEvents;
      if (way != GO_ON || known != run) {
        state.clear();
      }
      known = null;
      news.cut(0);
      taking = 0;
      steps = 0;
      stuck = false;
      difference = -1;
    }

    /** From now on the state is the one that the last worker of a run has kept of it. */
    void knows(Run run) {
      state.commandAt = run.history.size;
      state.taskAt = run.history.size;
      known = run;
    }

    private boolean goes() {
      return !stuck && state.over == 0;
    }

    private void getStuck(int event) {
      stuck = true;
      difference = event;
    }

    /** Goes by the TASKs whose arrivals are all taken. */
    private void passTasks() {
      int at = state.taskAt;
      while (at < history.size && !stuck
          && (history.kind(at) != History.TASK || history.x(at) <= state.taken)) {
        int command = history.kind(at) == History.TASK ? history.nextCommand(state.commandAt) : at;
        if (command < at) {
          getStuck(command);
        }
        at++;
      }
      state.taskAt = at;
    }

    /** Whether a command event is left that was not met: the run is STUCK by that. */
    boolean isLeft() {
      int command = history.nextCommand(state.commandAt);
      if (command < history.size) {
        getStuck(command);
      }
      return stuck;
    }

    /** How many events of the history are seen when a command is looked for. */
    private int seen() {
      return state.taken < seenCounted ? seenEvents : history.size;
    }

    private void note(int kind, int x, int y) {
      switch (kind) {
        case History.START:
          state.set(0, x);
          state.beginBranch(-1, 0);
          break;
        case History.SIGNAL:
          state.queue(x).add(y);
          break;
        case History.CANCEL:
          state.cancelTaken = true;
          tellCancel();
          break;
        case History.FAILED:
        case History.BROKEN:
          noteFailure(state.waiterFor(x));
          break;
        default:
          noteEnd(state.waiterFor(x), kind, y);
          break;
      }
    }

    private void noteEnd(Branch waiter, int kind, int value) {
      if (waiter == null) {
        return;
      }
      if (waiter.waits == Branch.FOR_UNDOING) {
        waiter.goOnAt(waiter.line);
        return;
      }
      if (kind != History.FIRED) {
        state.set(code.at(waiter.line) % 1000, value);
      }
      waiter.goOnAt(waiter.line + 1);
    }

    private void noteFailure(Branch waiter) {
      if (waiter == null) {
        return;
      }
      if (waiter.waits == Branch.FOR_UNDOING) {
        waiter.goOnAt(waiter.line);
      } else {
        failBranch(waiter);
      }
    }

    /** Tells each branch of CANCEL. */
    private void tellCancel() {
      for (int i = 0; i < state.there && goes(); i++) {
        Branch branch = state.branchAt(i);
        if (branch == null) {
          return;
        }
        if (branch.shields > 0) {
          branch.owed = true;
        } else if (!branch.waitsForEvent() || command(History.DROP, branch.waitsFor, 0) >= 0) {
          failBranch(branch);
        }
      }
    }

    private void failBranch(Branch branch) {
      branch.goOnAt(branch.line);
      if (branch.handlers > 0) {
        branch.goOnAt(state.top(branch.handlers));
        branch.handlers = state.popped(branch.handlers);
      } else if (command(History.FAIL, 0, 0) >= 0) {
        state.over = History.FAIL;
      }
    }

    private void endBranch(Branch branch) {
      if (branch.number != 0) {
        state.remove(branch);
      } else if (command(History.DONE, state.value(0), 0) >= 0) {
        state.over = History.DONE;
      }
    }

    /** Meets the next command event, or makes a new one; returns its number, -1 if STUCK by it. */
    private int command(int kind, int x, int y) {
      int next = history.nextCommand(state.commandAt);
      state.commandAt = next;
      if (next < seen()) {
        if (way != PLAIN && !history.is(next, kind, x, y)) {
          getStuck(next);
          return -1;
        }
        state.commandAt = next + 1;
        return next;
      }
      if (state.taken < history.counted) {
        getStuck(history.taskBeyond(state.taken));
        return -1;
      }
      news.put(kind, x, y, 0, 0);
      return history.size + news.size - 1;
    }

    /** Lets the branches go on until all wait, or the run is over or STUCK. */
    private void goOn() {
      Branch branch = state.firstAble();
      for (int i = 0; i < MOST_TURNS && branch != null && goes(); i++) {
        if (branch.waits != Branch.GOES) {
          awake(branch);
        } else if (branch.line >= code.size) {
          endBranch(branch);
        } else if (steps >= MOST_STEPS) {
          getStuck(-1);
        } else {
          steps++;
          int line = code.at(branch.line);
          int command = line / 1000000;
          if (command <= GOTO) {
            doPlainLine(branch, command, line / 1000 % 1000, line % 1000);
          } else if (command <= OVER) {
            doBranchLine(branch, command, line / 1000 % 1000);
          } else if (command <= AGAIN) {
            doEndingLine(branch, command, line / 1000 % 1000, line % 1000);
          } else {
            doOtherLine(branch, command, line / 1000 % 1000, line % 1000);
          }
        }
        branch = state.firstAble();
      }
    }

    /** What the branch waited for is there. */
    private void awake(Branch branch) {
      if (branch.waits == Branch.FOR_SIGNAL) {
        Row queue = state.queue(branch.waitsFor);
        state.set(code.at(branch.line) % 1000, queue.at(0));
        queue.removeAt(0);
      }
      branch.goOnAt(branch.line + 1);
    }

    private void doPlainLine(Branch branch, int command, int a, int b) {
      int next = branch.line + 1;
      switch (command) {
        case SET:
          state.set(a, b);
          break;
        case ADD:
          state.set(a, (state.value(a) + state.value(b)) % 1000);
          break;
        case ACT:
          branch.waitFor(Branch.FOR_EVENT, command(History.ACTIVITY, a, state.value(b)));
          return;
        case TIMER:
          branch.waitFor(Branch.FOR_EVENT, command(History.TIMER, a, 0));
          return;
        case WAIT:
          branch.waitFor(Branch.FOR_SIGNAL, a);
          return;
        case CHILD:
          branch.waitFor(Branch.FOR_EVENT, command(History.CHILD, a, state.value(b)));
          return;
        case ZERO:
          next = state.value(a) == 0 ? b : next;
          break;
        default:
          next = a;
          break;
      }
      branch.goOnAt(next);
    }

    private void doBranchLine(Branch branch, int command, int a) {
      if (command == JOIN) {
        branch.waitFor(Branch.FOR_CHILDREN, 0);
        return;
      }
      branch.goOnAt(branch.line + 1);
      switch (command) {
        case PAR:
          beginBelow(branch, a);
          break;
        case RACE:
          race(branch, beginBelow(branch, a));
          break;
        case WIN:
          win(branch);
          dropDoomed();
          break;
        case TRY:
          branch.handlers = state.pushed(branch.handlers, a);
          break;
        default:
          branch.handlers = state.popped(branch.handlers);
          break;
      }
    }

    /** Begins a branch below another; null if there are too many. */
    private Branch beginBelow(Branch parent, int line) {
      if (state.there >= State.MOST_BRANCHES) {
        getStuck(-1);
        return null;
      }
      return state.find(state.beginBranch(parent.number, line));
    }

    private void race(Branch branch, Branch other) {
      if (other == null) {
        return;
      }
      Branch before = state.find(branch.rival);
      if (before != null) {
        before.rival = -1;
      }
      branch.rival = other.number;
      other.rival = branch.number;
    }

    /** Parts rivals, cancels what a parent waits for, and dooms what is to be dropped. */
    private void win(Branch branch) {
      Branch rival = state.find(branch.rival);
      if (rival == null) {
        return;
      }
      branch.rival = -1;
      rival.rival = -1;
      if (rival.number != branch.parent) {
        state.doom(rival);
      } else if (!rival.waitsForEvent() || command(History.DROP, rival.waitsFor, 0) >= 0) {
        rival.goOnAt(branch.line);
        state.doom(branch);
      }
    }

    /** Cancels what the doomed branches wait for, by rising numbers, and removes them. */
    private void dropDoomed() {
      for (int i = 0; i < state.there && goes(); i++) {
        Branch branch = state.branchAt(i);
        if (branch != null && branch.doomed && branch.waitsForEvent()) {
          command(History.DROP, branch.waitsFor, 0);
        }
      }
      for (int i = state.there - 1; i >= 0; i--) {
        Branch branch = state.branchAt(i);
        if (branch != null && branch.doomed) {
          state.remove(branch);
        }
      }
    }

    private void doEndingLine(Branch branch, int command, int a, int b) {
      switch (command) {
        case COMP:
          state.compensations = state.pushed(state.compensations, 1000 * a + state.value(b));
          branch.goOnAt(branch.line + 1);
          break;
        case UNDO:
          undo(branch);
          break;
        case END:
          endBranch(branch);
          break;
        case FAIL:
          failBranch(branch);
          break;
        default:
          if (command(History.AGAIN, state.value(a), 0) >= 0) {
            state.over = History.AGAIN;
          }
          break;
      }
    }

    private void undo(Branch branch) {
      if (state.compensations == 0) {
        branch.goOnAt(branch.line + 1);
        return;
      }
      int last = state.top(state.compensations);
      state.compensations = state.popped(state.compensations);
      branch.waitFor(Branch.FOR_UNDOING, command(History.ACTIVITY, last / 1000, last % 1000));
    }

    private void doOtherLine(Branch branch, int command, int a, int b) {
      int next = branch.line + 1;
      boolean fails = false;
      switch (command) {
        case PATCH:
          next = patch(a) ? next : b;
          break;
        case NOW:
          state.set(a, history.clockOfArrival(taking));
          break;
        case SHIELD:
          branch.shields++;
          break;
        case TAG:
          command(History.TAG, state.value(a), 0);
          break;
        default:
          fails = branch.isBare();
          break;
      }
      branch.goOnAt(next);
      if (fails) {
        failBranch(branch);
      }
    }

    /** Whether the run has a patch, or gets it now. */
    private boolean patch(int patch) {
      if ((state.patches >> patch & 1) != 0) {
        return true;
      }
      int next = history.nextCommand(state.commandAt);
      boolean isNext = next < seen() && history.is(next, History.PATCH, patch, 0);
      boolean isNew = next >= seen() && state.taken >= history.counted;
      if (isNext || isNew) {
        state.patches |= 1 << patch;
        command(History.PATCH, patch, 0);
      }
      return isNext || isNew;
    }
  }

  /** A run: its history, and what is due for it. */
  private static final class Run {
    final int number;
    final int type;
    final int tenant;
    int version;
    /** The run that began it as a child, and the event by which it did; -1 if there is none. */
    int parent;
    final int parentEvent;
    int status = OPEN;
    int difference = -1;
    int copied = 0;
    /** How often a take over has cut events off its history. */
    int cuts = 0;
    int lastTask = -1;
    int tag = -1;
    /** The worker that keeps the state behind the last TASK, and the mark that the run had then. */
    int keeper = -1;
    int keptMark = 0;
    /** What was there when that worker replayed the run: a replay can only find what had come by then. */
    int seenCounted = 0;
    int seenEvents = 0;
    final History history = new History(new Row());
    /** The events of the timers that have not fired, by rising numbers, and when they are due. */
    final Row timers = new Row();
    final Row dues = new Row();
    /** The signals that a take over has lost. */
    final Row lost = new Row();

    Run(int number, int type, int tenant, int version, int parent, int parentEvent) {
      this.number = number;
      this.type = type;
      this.tenant = tenant;
      this.version = version;
      this.parent = parent;
      this.parentEvent = parentEvent;
    }

    /** Whether it is open or STUCK, so that arrivals come to it. */
    boolean isAlive() {
      return status == OPEN || status == STUCK;
    }

    boolean hasWork() {
      return status == OPEN && history.arrivals > history.counted;
    }

    /** When its first arrival without TASK came, of all events. */
    int firstOrder() {
      return history.orderOfArrival(history.firstNew());
    }

    /** Becomes another number by a TASK, a cut and another version; there are fewer than 1000 TASKs. */
    int mark() {
      return (cuts * 1000 + history.tasks) * MOST_VERSIONS + version;
    }

    boolean isKeptBy(int worker) {
      return keeper == worker && keptMark == mark();
    }

    void addTimer(int event, int due) {
      timers.add(event);
      dues.add(due);
    }

    void dropTimer(int event) {
      for (int i = timers.size - 1; i >= 0; i--) {
        if (timers.at(i) == event) {
          timers.removeAt(i);
          dues.removeAt(i);
        }
      }
    }
  }

  /** An activity of a run. */
  private static final class Activity {
    static final int WAITS = 0, TAKEN = 1, OVER = 2;

    final Run run;
    final int event;
    final int kind;
    final int input;
    final int madeAt;
    int state = WAITS;
    int attempts = 0;
    /** The time ahead of which it is not taken. */
    int ready = 0;
    int takenAt = 0;
    int beatAt = 0;
    int progress = 0;

    Activity(Run run, int event, int kind, int input, int madeAt) {
      this.run = run;
      this.event = event;
      this.kind = kind;
      this.input = input;
      this.madeAt = madeAt;
    }

    void beTaken(int time) {
      state = TAKEN;
      attempts++;
      takenAt = time;
      beatAt = time;
    }
  }

  /** A task of a worker, and what the run had when it was given out. */
  private static final class Task {
    final int worker;
    final Run run;
    final int givenAt;
    final int arrivals;
    final int mark;
    boolean over = false;

    Task(int worker, Run run, int givenAt) {
      this.worker = worker;
      this.run = run;
      this.givenAt = givenAt;
      this.arrivals = run.history.arrivals;
      this.mark = run.mark();
    }
  }

  /** A schedule by which runs are begun. */
  private static final class Schedule {
    static final int SKIP = 0, WAIT = 1, CANCEL = 2, BOTH = 3;

    final int type;
    final int tenant;
    final int period;
    final int overlap;
    int lookedTo;
    boolean paused = false;
    int lastRun = -1;
    /** Whether a run is to be begun when the last one is open no more. */
    boolean waiting = false;
    int waitingInput = 0;

    Schedule(int type, int tenant, int period, int overlap, int lookedTo) {
      this.type = type;
      this.tenant = tenant;
      this.period = period;
      this.overlap = overlap;
      this.lookedTo = lookedTo;
    }

    boolean isPoint(int local) {
      return period > 0 && Math.floorMod(local, period) == 0;
    }

    /** How many points there were from the local time 1 on. */
    int pointsSoFar() {
      return period > 0 && lookedTo > 0 ? lookedTo / period : 0;
    }
  }
}
