import java.util.ArrayList;
import java.util.List;

/**
 * "And nothing is done": behind every call that is refused, and behind every question, a keeper answers all
 * that can be asked as one does that was never called so. No keeper is called more than 512 times: the same
 * machine is made anew for each part of the questions.
 */
public final class SleepKeeperRefusals {
  private static final int NONE = SleepKeeper.NONE;
  private static final int LEAST = Integer.MIN_VALUE;
  private static final int MOST = Integer.MAX_VALUE;
  /** No PART, PROGRAM, HOLD or TICK has such a number; some look like one if cut to few bits. */
  private static final int[] NEVER = {LEAST, -64, -32, -1, 64, 128, 256, MOST};

  private static int looked = 0;
  private static int wrong = 0;
  private static Machine machine = SleepKeeper::new;
  private static String machineName = "";
  private static List<Long> untouched = new ArrayList<>();

  private interface Machine {
    SleepKeeper make();
  }

  private interface Call {
    boolean isRefused(SleepKeeper x);
  }

  private interface Question {
    void ask(SleepKeeper x);
  }

  public static void main(String[] args) {
    emptyMachine();
    someMachine();
    fullMachine();
    System.out.println(looked + " refused calls and questions looked at, " + wrong + " wrong");
    if (wrong != 0) {
      System.exit(1);
    }
  }

  // ---- machines

  /** Four PARTS, none like another; HOLD 3 has no TICK. */
  private static SleepKeeper some() {
    SleepKeeper x = new SleepKeeper();
    x.part(40, 30, 20, 10);
    x.part(9, 6, 3, 0);
    x.part(50, 50, 1, 1);
    x.part(99, 7, 7, 2);
    x.rise(0, 11, 23, 47, 1, 2, 4);
    x.rise(1, 1, 2, 3, 0, 0, 1);
    x.rise(2, 5, 50, 500, 3, 6, 9);
    x.need(0, 1, true);
    x.need(1, 2, true);
    x.need(0, 2, true);
    x.hold(1, 0, 20, 25);
    x.hold(2, 1, 22, 30);
    x.hold(7, 3, 50, 60);
    x.hold(0, 3, 10, 20);
    x.back(3, 10);
    x.timer(4, 2, 40, 48);
    x.timer(5, 3, 44, 52);
    x.timer(6, 1, 5, 6);
    x.rule(0, 2, 4, 6);
    x.rule(1, 0, 1, 8);
    x.rule(3, 3, 3, 3);
    return x;
  }

  /** As many PARTS, HOLDS and TIMERS as there can be, and a chain of NEEDS from PART 5 down to 0. */
  private static SleepKeeper full() {
    SleepKeeper x = new SleepKeeper();
    for (int p = 0; p < 6; p++) {
      x.part(60 + p, 40 + p, 20 + p, p);
      x.rise(p, 10 * p, 20 * p, 30 * p, p / 2, p / 2 + 1, p / 2 + 2);
      x.rule(p, p, 2 * p, 3 * p);
    }
    for (int p = 0; p < 5; p++) {
      x.need(p + 1, p, true);
    }
    for (int i = 0; i < 20; i++) {
      x.hold(i % 8, i % 3, 3 * i + 1, 3 * i + 2 + i % 2);
    }
    for (int i = 0; i < 12; i++) {
      x.timer((i + 3) % 8, i % 6, 5 * i, 5 * i + 3);
    }
    return x;
  }

  // ---- all that can be asked, in parts of fewer than 450 calls

  private static void askCounts(SleepKeeper x, List<Long> told) {
    for (int what = 0; what < 4; what++) {
      told.add((long) x.look(what));
    }
    for (int i = 0; i < 21; i++) {
      for (int what = 0; what < 4; what++) {
        told.add((long) x.held(i, what));
      }
      told.add((long) x.waking(i));
      told.add((long) x.fires(i));
      told.add((long) x.without(i));
    }
    for (int program = 0; program < 9; program++) {
      told.add((long) x.blame(program));
    }
    told.add((long) x.all());
  }

  private static void askOrder(SleepKeeper x, List<Long> told) {
    for (int tick = 0; tick < 64; tick++) {
      for (int i = 0; i < 6; i++) {
        told.add((long) x.order(tick, i));
      }
    }
  }

  private static void askPart(SleepKeeper x, int p, List<Long> told) {
    told.add(x.when(p));
    told.add((long) x.spans(p));
    told.add((long) x.drain(p));
    told.add((long) x.ruled(p));
    for (int i = 0; i < 30; i++) {
      for (int what = 0; what < 6; what++) {
        told.add((long) x.span(p, i, what));
      }
    }
    for (int tick = 0; tick < 64; tick++) {
      told.add((long) x.wanted(p, tick));
      told.add((long) x.state(p, tick));
      told.add((long) x.ruledState(p, tick));
    }
  }

  /** What no question shows: each STATE's numbers, by RULES that go through that STATE alone. */
  private static void tryNumbers(SleepKeeper x, List<Long> told) {
    for (int p = 0; p < 6; p++) {
      x.rule(p, 0, 64, 64);
      told.add((long) x.ruled(p));
      x.rule(p, 0, 0, 64);
      told.add((long) x.ruled(p));
      x.rule(p, 0, 0, 0);
      told.add((long) x.ruled(p));
      told.add((long) x.learn(p));
    }
  }

  /** What no question shows: who NEEDS whom, the next numbers, and what a next PART is at first. */
  private static void tryNext(SleepKeeper x, List<Long> told) {
    for (int p = 0; p < 6; p++) {
      for (int q = 0; q < 6; q++) {
        told.add(x.need(p, q, false) ? 1L : 0L);
      }
    }
    told.add((long) x.hold(0, 0, 0, 1));
    told.add((long) x.timer(0, 0, 63, 63));
    int next = x.part(50, 40, 30, 20);
    told.add((long) next);
    told.add(x.when(next));
    told.add((long) x.ruled(next));
    x.hold(0, next, 30, 64);
    told.add((long) x.drain(next));
    tryNumbers(x, told);
  }

  private static void take(int n, SleepKeeper x, List<Long> told) {
    switch (n) {
      case 0:
        askCounts(x, told);
        break;
      case 1:
        askOrder(x, told);
        break;
      case 2:
        tryNumbers(x, told);
        break;
      case 3:
        tryNext(x, told);
        break;
      default:
        askPart(x, n - 4, told);
        break;
    }
  }

  /** All answers behind a call; null if that was not refused. */
  private static List<Long> picture(Call call) {
    List<Long> told = new ArrayList<>();
    for (int n = 0; n < 10; n++) {
      SleepKeeper x = machine.make();
      if (!call.isRefused(x)) {
        return null;
      }
      take(n, x, told);
    }
    return told;
  }

  // ---- what is looked at

  private static void on(String name, Machine made) {
    machine = made;
    machineName = name;
    untouched = picture(x -> true);
  }

  private static void refused(String name, Call call) {
    looked++;
    List<Long> told = picture(call);
    if (told == null) {
      wrong++;
      System.out.println(machineName + ": " + name + " was not refused");
    } else if (!told.equals(untouched)) {
      wrong++;
      System.out.println(machineName + ": " + name + " was refused, but changed something");
    }
  }

  private static void asked(String name, Question question) {
    looked++;
    List<Long> told = picture(x -> {
      question.ask(x);
      return true;
    });
    if (!untouched.equals(told)) {
      wrong++;
      System.out.println(machineName + ": " + name + " is a question, but changed something");
    }
  }

  private static void noPart(int awake, int doze, int sleep, int off) {
    refused("part(" + awake + ", " + doze + ", " + sleep + ", " + off + ")", x -> x.part(awake, doze, sleep, off) == NONE);
  }

  private static void noRise(int p, int a, int b, int c, int x, int y, int z) {
    refused("rise(" + p + ", " + a + ", " + b + ", " + c + ", " + x + ", " + y + ", " + z + ")", k -> !k.rise(p, a, b, c, x, y, z));
  }

  private static void noNeed(int p, int q, boolean is) {
    refused("need(" + p + ", " + q + ", " + is + ")", x -> !x.need(p, q, is));
  }

  private static void noHold(int program, int p, int from, int to) {
    refused("hold(" + program + ", " + p + ", " + from + ", " + to + ")", x -> x.hold(program, p, from, to) == NONE);
  }

  private static void noBack(int i, int tick) {
    refused("back(" + i + ", " + tick + ")", x -> !x.back(i, tick));
  }

  private static void noTimer(int program, int p, int first, int last) {
    refused("timer(" + program + ", " + p + ", " + first + ", " + last + ")", x -> x.timer(program, p, first, last) == NONE);
  }

  private static void noRule(int p, int doze, int sleep, int off) {
    refused("rule(" + p + ", " + doze + ", " + sleep + ", " + off + ")", x -> !x.rule(p, doze, sleep, off));
  }

  private static void noLearn(int p) {
    refused("learn(" + p + ")", x -> x.learn(p) == NONE);
  }

  // ---- the calls

  /** Calls that can be on no machine. */
  private static void neverBy(int parts, int holds) {
    noPart(100, 5, 2, 1);
    noPart(10, 11, 2, 1);
    noPart(10, 5, 6, 1);
    noPart(10, 5, 2, 3);
    noPart(10, 5, 2, -1);
    noPart(-1, -1, -1, -1);
    noPart(MOST, MOST, MOST, MOST);
    for (int p : NEVER) {
      noSuchPart(p);
    }
    noSuchPart(parts);
    for (int i : NEVER) {
      noBack(i, 20);
    }
    noBack(holds, 20);
    questions(parts);
  }

  private static void noSuchPart(int p) {
    noRise(p, 1, 2, 3, 1, 2, 3);
    noNeed(p, 0, true);
    noNeed(0, p, true);
    noNeed(p, 0, false);
    noNeed(0, p, false);
    noHold(0, p, 12, 15);
    noTimer(0, p, 12, 15);
    noRule(p, 1, 2, 3);
    noLearn(p);
  }

  private static void questions(int parts) {
    int[] numbers = {LEAST, -1, 0, parts - 1, parts, 7, 8, 63, 64, MOST};
    for (int a : numbers) {
      asked("look(" + a + ")", x -> x.look(a));
      asked("waking(" + a + ")", x -> x.waking(a));
      asked("fires(" + a + ")", x -> x.fires(a));
      asked("when(" + a + ")", x -> x.when(a));
      asked("spans(" + a + ")", x -> x.spans(a));
      asked("drain(" + a + ")", x -> x.drain(a));
      asked("ruled(" + a + ")", x -> x.ruled(a));
      asked("without(" + a + ")", x -> x.without(a));
      asked("blame(" + a + ")", x -> x.blame(a));
      asked("held(" + a + ", 0)", x -> x.held(a, 0));
      asked("held(0, " + a + ")", x -> x.held(0, a));
      asked("wanted(0, " + a + ")", x -> x.wanted(0, a));
      asked("state(" + a + ", 0)", x -> x.state(a, 0));
      asked("state(0, " + a + ")", x -> x.state(0, a));
      asked("ruledState(" + a + ", 0)", x -> x.ruledState(a, 0));
      asked("ruledState(0, " + a + ")", x -> x.ruledState(0, a));
      asked("order(" + a + ", 0)", x -> x.order(a, 0));
      asked("order(0, " + a + ")", x -> x.order(0, a));
      asked("span(" + a + ", 0, 3)", x -> x.span(a, 0, 3));
      asked("span(0, " + a + ", 3)", x -> x.span(0, a, 3));
      asked("span(0, 0, " + a + ")", x -> x.span(0, 0, a));
    }
    asked("all()", x -> x.all());
  }

  private static void emptyMachine() {
    on("an empty machine", SleepKeeper::new);
    neverBy(0, 0);
    noRise(0, 0, 0, 0, 0, 0, 0);
    noNeed(0, 1, true);
    noNeed(0, 0, false);
    noHold(0, 0, 0, 1);
    noTimer(0, 0, 0, 1);
    noRule(0, 0, 0, 0);
    noBack(0, 0);
  }

  private static void someMachine() {
    on("a machine", SleepKeeperRefusals::some);
    neverBy(4, 4);
    wrongNumbers(1);
    wrongNeeds();
    wrongTicks();
  }

  /** COSTS, RISING ticks and RULES that can't be, each wrong in one place and right in all others. */
  private static void wrongNumbers(int p) {
    noRise(p, -1, 20, 30, 2, 4, 6);
    noRise(p, 21, 20, 30, 2, 4, 6);
    noRise(p, 10, 31, 30, 2, 4, 6);
    noRise(p, 10, 20, 1000, 2, 4, 6);
    noRise(p, 10, 20, MOST, 2, 4, 6);
    noRise(p, LEAST, 20, 30, 2, 4, 6);
    noRise(p, 10, 20, 30, -1, 4, 6);
    noRise(p, 10, 20, 30, 5, 4, 6);
    noRise(p, 10, 20, 30, 2, 7, 6);
    noRise(p, 10, 20, 30, 2, 4, 10);
    noRise(p, 10, 20, 30, 2, 4, MOST);
    noRise(p, 10, 20, 30, LEAST, 4, 6);
    noRule(p, -1, 20, 30);
    noRule(p, 21, 20, 30);
    noRule(p, 10, 31, 30);
    noRule(p, 10, 20, 65);
    noRule(p, 10, 20, MOST);
    noRule(p, LEAST, 20, 30);
  }

  private static void wrongNeeds() {
    noNeed(0, 1, true);
    noNeed(1, 2, true);
    noNeed(1, 0, true);
    noNeed(2, 1, true);
    noNeed(2, 0, true);
    for (int p = 0; p < 4; p++) {
      noNeed(p, p, true);
      noNeed(p, p, false);
      noNeed(3, p, false);
    }
    noNeed(2, 0, false);
    noNeed(1, 0, false);
  }

  private static void wrongTicks() {
    for (int program : NEVER) {
      noHold(program, 1, 12, 15);
      noTimer(program, 1, 12, 15);
    }
    noHold(8, 1, 12, 15);
    noHold(0, 1, 12, 12);
    noHold(0, 1, 13, 12);
    noHold(0, 1, -1, 12);
    noHold(0, 1, 12, 65);
    noHold(0, 1, 64, 64);
    noHold(0, 1, 64, 65);
    noHold(0, 1, LEAST, MOST);
    noTimer(8, 1, 12, 15);
    noTimer(0, 1, 13, 12);
    noTimer(0, 1, -1, 12);
    noTimer(0, 1, 12, 64);
    noTimer(0, 1, 64, 64);
    noTimer(0, 1, LEAST, MOST);
    noBack(0, 19);
    noBack(0, 25);
    noBack(0, -1);
    noBack(0, 64);
    noBack(0, LEAST);
    noBack(0, MOST);
    // HOLD 3 has no TICK any more
    noBack(3, 9);
    noBack(3, 10);
    noBack(3, 15);
  }

  private static void fullMachine() {
    on("a full machine", SleepKeeperRefusals::full);
    neverBy(6, 20);
    wrongNumbers(5);
    noPart(10, 5, 2, 1);
    noPart(0, 0, 0, 0);
    noHold(0, 5, 0, 64);
    noHold(7, 0, 63, 64);
    noTimer(0, 5, 0, 63);
    noTimer(7, 0, 0, 0);
    noTimer(7, 0, 63, 63);
    noNeed(0, 5, true);
    noNeed(2, 4, true);
    noNeed(5, 4, true);
    noNeed(5, 3, false);
    noBack(19, 57);
    noBack(19, 60);
  }
}
