/**
 * Each sentence of the document that names a boundary case, with a test of its own: the last value that
 * can be, the first that can't, none at all, as many as there can be, and the two ends of all TICKS.
 * Answers are worked out by hand. That a refused call changes nothing is looked at in SleepKeeperRefusals.
 */
public final class SleepKeeperEdges {
  private static final int NONE = SleepKeeper.NONE;
  private static final int LEAST = Integer.MIN_VALUE;
  private static final int MOST = Integer.MAX_VALUE;
  /** No PART, PROGRAM, HOLD, TIMER, WAKING, SPAN or place has such a number; some look like one if cut to few bits. */
  private static final int[] NEVER = {LEAST, LEAST + 1, -256, -64, -32, -8, -1, 64, 128, 256, 1 << 16, MOST - 1, MOST};

  private static int tests = 0;
  private static int failed = 0;
  private static String sentence = "";
  private static boolean holds = true;

  private static void test(int promise, String words, Runnable body) {
    sentence = "promise " + promise + ", " + words;
    holds = true;
    tests++;
    try {
      body.run();
    } catch (RuntimeException thrown) {
      holds = false;
      System.out.println(sentence + ": threw " + thrown);
    }
    failed += holds ? 0 : 1;
  }

  private static void due(String call, long got, long want) {
    if (got != want) {
      holds = false;
      System.out.println(sentence + ": " + call + " answered " + got + ", due is " + want);
    }
  }

  private static void due(String call, boolean got, boolean want) {
    due(call, got ? 1L : 0L, want ? 1L : 0L);
  }

  private static void due(String call, String got, String want) {
    if (!got.equals(want)) {
      holds = false;
      System.out.println(sentence + ": " + call + " answered " + got + ", due is " + want);
    }
  }

  public static void main(String[] args) {
    anObject();
    newObject();
    part();
    rise();
    need();
    hold();
    back();
    timer();
    rule();
    look();
    held();
    waking();
    fires();
    wanted();
    when();
    spans();
    span();
    planTies();
    planRising();
    drain();
    ruled();
    ruleRising();
    state();
    ruledState();
    all();
    without();
    blame();
    order();
    learn();
    System.out.println(tests + " boundary sentences looked at, " + failed + " broken");
    if (failed != 0) {
      System.exit(1);
    }
  }

  // ---- machines

  private static SleepKeeper ofParts(int n) {
    SleepKeeper x = new SleepKeeper();
    for (int p = 0; p < n; p++) {
      x.part(10, 5, 2, 1);
    }
    return x;
  }

  private static SleepKeeper onePart(int awake, int doze, int sleep, int off) {
    SleepKeeper x = new SleepKeeper();
    x.part(awake, doze, sleep, off);
    return x;
  }

  /** One PART that is WANTED from a TICK to the end: a single SPAN of len TICKS, with TICKS behind it. */
  private static SleepKeeper oneSpan(SleepKeeper x, int len) {
    x.hold(0, 0, len, 64);
    return x;
  }

  /** DRAINS 10, 6, 3, 1, COSTS 100, 200, 300, RISING 1, 2, 3: no two of them alike. */
  private static SleepKeeper apart() {
    SleepKeeper x = onePart(10, 6, 3, 1);
    x.rise(0, 100, 200, 300, 1, 2, 3);
    return x;
  }

  private static SleepKeeper full() {
    SleepKeeper x = ofParts(6);
    for (int i = 0; i < 20; i++) {
      x.hold(i % 8, i % 6, i, i + 1);
    }
    for (int i = 0; i < 12; i++) {
      x.timer(i % 8, i % 6, 30 + 2 * i, 30 + 2 * i);
    }
    return x;
  }

  private static String states(SleepKeeper x, int p, int from, int to) {
    StringBuilder text = new StringBuilder();
    for (int tick = from; tick < to; tick++) {
      text.append(x.state(p, tick));
    }
    return text.toString();
  }

  private static String ruledStates(SleepKeeper x, int p, int from, int to) {
    StringBuilder text = new StringBuilder();
    for (int tick = from; tick < to; tick++) {
      text.append(x.ruledState(p, tick));
    }
    return text.toString();
  }

  private static String many(String sign, int times) {
    return sign.repeat(times);
  }

  // ---- an object

  private static void anObject() {
    test(0, "an object is used for at most 512 calls: the 512th is answered", () -> {
      SleepKeeper x = new SleepKeeper();
      x.part(10, 4, 1, 0);
      x.hold(0, 0, 10, 12);
      for (int n = 2; n < 511; n++) {
        if (n % 2 == 0) {
          x.rule(0, n % 65, 64, 64);
        } else {
          x.learn(0);
        }
      }
      due("drain(0)", x.drain(0), 20);
    });
    test(0, "NONE = -1", () -> due("NONE", SleepKeeper.NONE, -1));
  }

  private static void newObject() {
    test(1, "no PARTS: look(0) is 0, and none of 0 .. 5 is there", () -> {
      SleepKeeper x = new SleepKeeper();
      due("look(0)", x.look(0), 0);
      for (int p = 0; p < 6; p++) {
        due("drain(" + p + ")", x.drain(p), NONE);
        due("wanted(" + p + ", 0)", x.wanted(p, 0), NONE);
        due("spans(" + p + ")", x.spans(p), NONE);
        due("when(" + p + ")", x.when(p), 0);
      }
    });
    test(1, "no PARTS: nothing can be asked of one or put on one", () -> {
      SleepKeeper x = new SleepKeeper();
      due("rise", x.rise(0, 0, 0, 0, 0, 0, 0), false);
      due("need", x.need(0, 1, true), false);
      due("hold", x.hold(0, 0, 0, 1), NONE);
      due("timer", x.timer(0, 0, 0, 0), NONE);
      due("rule", x.rule(0, 0, 0, 0), false);
      due("learn", x.learn(0), NONE);
    });
    test(1, "no PARTS: no HOLDS, TIMERS, WAKINGS", () -> {
      SleepKeeper x = new SleepKeeper();
      due("look(1)", x.look(1), 0);
      due("look(2)", x.look(2), 0);
      due("look(3)", x.look(3), 0);
      due("held(0, 0)", x.held(0, 0), NONE);
      due("back(0, 0)", x.back(0, 0), false);
      due("fires(0)", x.fires(0), NONE);
      due("waking(0)", x.waking(0), NONE);
      due("without(0)", x.without(0), -100001);
    });
    test(1, "no PARTS: nothing is drained, nobody is blamed, none gets up", () -> {
      SleepKeeper x = new SleepKeeper();
      due("all()", x.all(), 0);
      for (int program = 0; program <= 8; program++) {
        due("blame(" + program + ")", x.blame(program), 0);
      }
      due("order(0, 0)", x.order(0, 0), NONE);
      due("order(63, 0)", x.order(63, 0), NONE);
    });
    test(1, "a new object beside a full one has nothing of it", () -> {
      SleepKeeper other = full();
      SleepKeeper x = new SleepKeeper();
      due("look(0) .. look(3)", x.look(0) + x.look(1) + x.look(2) + x.look(3), 0);
      due("part", x.part(1, 1, 1, 1), 0);
      due("when(0)", x.when(0), 0);
      due("the full one", other.look(1), 20);
    });
  }

  // ---- promise 2

  private static void dueNoPart(int awake, int doze, int sleep, int off) {
    SleepKeeper x = new SleepKeeper();
    due("part(" + awake + ", " + doze + ", " + sleep + ", " + off + ")", x.part(awake, doze, sleep, off), NONE);
    due("look(0)", x.look(0), 0);
  }

  private static void dueDrains(int awake, int doze, int sleep, int off) {
    SleepKeeper x = new SleepKeeper();
    due("part(" + awake + ", " + doze + ", " + sleep + ", " + off + ")", x.part(awake, doze, sleep, off), 0);
    due("AWAKE", x.ruled(0), 64 * awake);
    x.rule(0, 0, 64, 64);
    due("DOZE", x.ruled(0), 64 * doze);
    x.rule(0, 0, 0, 64);
    due("SLEEP", x.ruled(0), 64 * sleep);
    x.rule(0, 0, 0, 0);
    due("OFF", x.ruled(0), 64 * off);
  }

  private static void part() {
    test(2, "DRAIN 0 can be", () -> {
      dueDrains(0, 0, 0, 0);
      dueDrains(9, 8, 7, 0);
    });
    test(2, "DRAIN below 0 can't be", () -> {
      dueNoPart(9, 8, 7, -1);
      dueNoPart(9, 8, -1, -1);
      dueNoPart(9, -1, -1, -1);
      dueNoPart(-1, -1, -1, -1);
      dueNoPart(9, 8, 7, LEAST);
      dueNoPart(9, 8, -1, 0);
      dueNoPart(-1, 0, 0, 0);
    });
    test(2, "DRAIN 99 can be", () -> {
      dueDrains(99, 99, 99, 99);
      dueDrains(99, 2, 1, 0);
    });
    test(2, "DRAIN above 99 can't be", () -> {
      dueNoPart(100, 99, 99, 99);
      dueNoPart(100, 100, 0, 0);
      dueNoPart(100, 100, 100, 0);
      dueNoPart(100, 100, 100, 100);
      dueNoPart(99, 100, 0, 0);
      dueNoPart(MOST, 1, 1, 1);
    });
    test(2, "none above that of the STATE ahead: as much can be", () -> {
      dueDrains(7, 7, 3, 1);
      dueDrains(7, 4, 4, 1);
      dueDrains(7, 4, 2, 2);
    });
    test(2, "none above that of the STATE ahead: one more can't be", () -> {
      dueNoPart(7, 8, 3, 1);
      dueNoPart(7, 4, 5, 1);
      dueNoPart(7, 4, 2, 3);
      dueNoPart(0, 0, 0, 1);
    });
    test(2, "numbered as they come, a refused one takes no number", () -> {
      SleepKeeper x = new SleepKeeper();
      for (int p = 0; p < 6; p++) {
        due("refused", x.part(1, 2, 0, 0), NONE);
        due("part " + p, x.part(p, 0, 0, 0), p);
        due("look(0)", x.look(0), p + 1);
      }
      for (int p = 0; p < 6; p++) {
        due("ruled(" + p + ")", x.ruled(p), 64 * p);
      }
    });
    test(2, "there are 6: no seventh", () -> {
      SleepKeeper x = ofParts(6);
      due("a seventh", x.part(10, 5, 2, 1), NONE);
      due("an eighth", x.part(0, 0, 0, 0), NONE);
      due("look(0)", x.look(0), 6);
      due("all()", x.all(), 6 * 64);
      due("drain(6)", x.drain(6), NONE);
    });
  }

  // ---- promise 3

  /** A single SPAN of 20 TICKS; by which STATE it goes through it is said by RULE. */
  private static void dueNumbers(SleepKeeper x, int p, int[] costs, int[] rising) {
    x.hold(0, p, 20, 64);
    int[] drains = {10, 5, 2, 1};
    for (int s = 1; s < 4; s++) {
      x.rule(p, 0, s == 1 ? 64 : 0, s == 3 ? 0 : 64);
      int rest = 20 - rising[s - 1];
      due("COST and RISING of STATE " + s, x.ruled(p), 440 + rest * drains[s] + rising[s - 1] * 10 + costs[s - 1]);
      due("up at", ruledStates(x, p, 0, 20), many("" + s, rest) + many("0", rising[s - 1]));
    }
  }

  private static void dueRise(boolean can, int a, int b, int c, int x, int y, int z) {
    SleepKeeper k = ofParts(1);
    due("rise(0, " + a + ", " + b + ", " + c + ", " + x + ", " + y + ", " + z + ")", k.rise(0, a, b, c, x, y, z), can);
    dueNumbers(k, 0, can ? new int[] {a, b, c} : new int[3], can ? new int[] {x, y, z} : new int[3]);
  }

  private static void rise() {
    test(3, "at first COST 0 and RISING 0", () -> {
      SleepKeeper x = ofParts(6);
      dueNumbers(x, 0, new int[3], new int[3]);
      dueNumbers(x, 5, new int[3], new int[3]);
    });
    test(3, "COST 0 can be", () -> {
      dueRise(true, 0, 0, 0, 1, 2, 3);
      dueRise(true, 0, 4, 5, 1, 2, 3);
    });
    test(3, "COST below 0 can't be", () -> {
      dueRise(false, -1, 4, 5, 1, 2, 3);
      dueRise(false, -1, -1, 5, 1, 2, 3);
      dueRise(false, -1, -1, -1, 1, 2, 3);
      dueRise(false, LEAST, 4, 5, 1, 2, 3);
      dueRise(false, 0, -1, 5, 1, 2, 3);
      dueRise(false, 0, 0, -1, 1, 2, 3);
    });
    test(3, "COST 999 can be", () -> {
      dueRise(true, 999, 999, 999, 1, 2, 3);
      dueRise(true, 3, 4, 999, 1, 2, 3);
    });
    test(3, "COST above 999 can't be", () -> {
      dueRise(false, 3, 4, 1000, 1, 2, 3);
      dueRise(false, 3, 1000, 1000, 1, 2, 3);
      dueRise(false, 1000, 1000, 1000, 1, 2, 3);
      dueRise(false, 3, 4, MOST, 1, 2, 3);
    });
    test(3, "COST not below that of the STATE ahead: as much can be", () -> {
      dueRise(true, 4, 4, 5, 1, 2, 3);
      dueRise(true, 3, 5, 5, 1, 2, 3);
    });
    test(3, "COST below that of the STATE ahead can't be", () -> {
      dueRise(false, 5, 4, 5, 1, 2, 3);
      dueRise(false, 3, 5, 4, 1, 2, 3);
      dueRise(false, 999, 998, 999, 1, 2, 3);
    });
    test(3, "RISING 0 can be", () -> {
      dueRise(true, 3, 4, 5, 0, 0, 0);
      dueRise(true, 3, 4, 5, 0, 2, 3);
    });
    test(3, "RISING below 0 can't be", () -> {
      dueRise(false, 3, 4, 5, -1, 2, 3);
      dueRise(false, 3, 4, 5, -1, -1, 3);
      dueRise(false, 3, 4, 5, -1, -1, -1);
      dueRise(false, 3, 4, 5, LEAST, 2, 3);
      dueRise(false, 3, 4, 5, 0, -1, 3);
      dueRise(false, 3, 4, 5, 0, 0, -1);
    });
    test(3, "RISING 9 can be", () -> {
      dueRise(true, 3, 4, 5, 9, 9, 9);
      dueRise(true, 3, 4, 5, 1, 2, 9);
    });
    test(3, "RISING above 9 can't be", () -> {
      dueRise(false, 3, 4, 5, 1, 2, 10);
      dueRise(false, 3, 4, 5, 1, 10, 10);
      dueRise(false, 3, 4, 5, 10, 10, 10);
      dueRise(false, 3, 4, 5, 1, 2, MOST);
    });
    test(3, "RISING not below that of the STATE ahead: as much can be", () -> {
      dueRise(true, 3, 4, 5, 2, 2, 3);
      dueRise(true, 3, 4, 5, 1, 3, 3);
    });
    test(3, "RISING below that of the STATE ahead can't be", () -> {
      dueRise(false, 3, 4, 5, 3, 2, 3);
      dueRise(false, 3, 4, 5, 1, 3, 2);
    });
    test(3, "no such PART", () -> {
      SleepKeeper x = ofParts(5);
      for (int p : NEVER) {
        due("rise(" + p + ", ..)", x.rise(p, 0, 0, 0, 0, 0, 0), false);
      }
      due("rise(5, ..) of 0 .. 4", x.rise(5, 1, 1, 1, 1, 1, 1), false);
      due("rise(4, ..)", x.rise(4, 1, 1, 1, 1, 1, 1), true);
      x.part(10, 5, 2, 1);
      due("rise(6, ..) of six", x.rise(6, 0, 0, 0, 0, 0, 0), false);
      dueNumbers(x, 5, new int[3], new int[3]);
    });
    test(3, "a second one takes the place of the first, and that PART's alone", () -> {
      SleepKeeper x = ofParts(2);
      due("rise", x.rise(0, 900, 900, 900, 9, 9, 9), true);
      due("rise lower", x.rise(0, 1, 2, 3, 0, 1, 2), true);
      dueNumbers(x, 0, new int[] {1, 2, 3}, new int[] {0, 1, 2});
      dueNumbers(x, 1, new int[3], new int[3]);
    });
  }

  // ---- promise 4

  private static void need() {
    test(4, "no such PARTS", () -> {
      SleepKeeper x = ofParts(5);
      for (int odd : NEVER) {
        due("need(" + odd + ", 0, true)", x.need(odd, 0, true), false);
        due("need(0, " + odd + ", true)", x.need(0, odd, true), false);
        due("need(" + odd + ", 0, false)", x.need(odd, 0, false), false);
        due("need(0, " + odd + ", false)", x.need(0, odd, false), false);
      }
      due("need(5, 0, true) of 0 .. 4", x.need(5, 0, true), false);
      due("need(0, 5, true) of 0 .. 4", x.need(0, 5, true), false);
      due("need(4, 0, true)", x.need(4, 0, true), true);
      x.part(1, 1, 1, 1);
      due("need(5, 0, false): the refused one is not there", x.need(5, 0, false), false);
      due("need(0, 5, false): the refused one is not there", x.need(0, 5, false), false);
    });
    test(4, "it was so: it NEEDS it already", () -> {
      SleepKeeper x = ofParts(2);
      due("first", x.need(0, 1, true), true);
      due("again", x.need(0, 1, true), false);
      due("still NEEDED", x.need(0, 1, false), true);
    });
    test(4, "it was so: it did not NEED it", () -> {
      SleepKeeper x = ofParts(2);
      due("at first", x.need(0, 1, false), false);
      x.need(0, 1, true);
      due("the other way", x.need(1, 0, false), false);
      due("no more", x.need(0, 1, false), true);
      due("no more, again", x.need(0, 1, false), false);
      due("itself", x.need(0, 0, false), false);
    });
    test(4, "a ring of one", () -> {
      SleepKeeper x = ofParts(6);
      for (int p = 0; p < 6; p++) {
        due("need(" + p + ", " + p + ", true)", x.need(p, p, true), false);
      }
    });
    test(4, "a ring of two", () -> {
      SleepKeeper x = ofParts(2);
      x.need(1, 0, true);
      due("need(0, 1, true)", x.need(0, 1, true), false);
      x.hold(0, 0, 5, 6);
      due("it was not done", x.wanted(1, 5), 0);
    });
    test(4, "a ring of all six, against the numbers and along them", () -> {
      SleepKeeper up = ofParts(6);
      SleepKeeper down = ofParts(6);
      for (int p = 0; p < 5; p++) {
        due("up", up.need(p, p + 1, true), true);
        due("down", down.need(p + 1, p, true), true);
      }
      due("closed", up.need(5, 0, true), false);
      due("closed", down.need(0, 5, true), false);
      up.hold(0, 5, 7, 8);
      due("it was not done", up.wanted(0, 7), 0);
    });
    test(4, "a ring of all six, made in a mixed order", () -> {
      SleepKeeper x = ofParts(6);
      int[] chain = {3, 0, 5, 1, 4, 2};
      for (int k : new int[] {4, 1, 3, 0, 2}) {
        due("a step", x.need(chain[k], chain[k + 1], true), true);
      }
      due("closed", x.need(2, 3, true), false);
      due("closed inside", x.need(4, 0, true), false);
      due("along it", x.need(3, 2, true), true);
    });
    test(4, "two ways to the same PART are no ring", () -> {
      SleepKeeper x = ofParts(4);
      due("0 to 1", x.need(0, 1, true), true);
      due("0 to 2", x.need(0, 2, true), true);
      due("1 to 3", x.need(1, 3, true), true);
      due("2 to 3", x.need(2, 3, true), true);
      due("0 to 3", x.need(0, 3, true), true);
      due("3 to 0", x.need(3, 0, true), false);
    });
    test(4, "as many NEEDS as there can be: 15, each other one a ring", () -> {
      SleepKeeper x = ofParts(6);
      for (int p = 0; p < 6; p++) {
        for (int q = p + 1; q < 6; q++) {
          due("need(" + p + ", " + q + ", true)", x.need(p, q, true), true);
        }
      }
      for (int p = 0; p < 6; p++) {
        for (int q = 0; q <= p; q++) {
          due("need(" + p + ", " + q + ", true)", x.need(p, q, true), false);
        }
      }
    });
    test(4, "a ring that was opened can be closed elsewhere", () -> {
      SleepKeeper x = ofParts(3);
      x.need(0, 1, true);
      x.need(1, 2, true);
      due("a ring", x.need(2, 0, true), false);
      due("opened", x.need(0, 1, false), true);
      due("no ring now", x.need(2, 0, true), true);
      due("but this is", x.need(0, 1, true), false);
    });
    test(4, "NEEDS no more: at once, and only that one", () -> {
      SleepKeeper x = ofParts(3);
      x.need(0, 1, true);
      x.need(0, 2, true);
      x.hold(0, 0, 0, 64);
      due("NEEDED", x.when(1), -1L);
      x.need(0, 1, false);
      due("no more", x.when(1), 0);
      due("the other", x.when(2), -1L);
    });
  }

  // ---- promise 5

  private static void hold() {
    test(5, "PROGRAMS are 0 .. 7", () -> {
      SleepKeeper x = ofParts(1);
      due("0", x.hold(0, 0, 0, 1), 0);
      due("7", x.hold(7, 0, 0, 1), 1);
      due("8", x.hold(8, 0, 0, 1), NONE);
      for (int program : NEVER) {
        due("" + program, x.hold(program, 0, 0, 1), NONE);
      }
      due("look(1)", x.look(1), 2);
    });
    test(5, "no such PART", () -> {
      SleepKeeper x = ofParts(5);
      due("4", x.hold(0, 4, 0, 1), 0);
      due("5 of 0 .. 4", x.hold(0, 5, 0, 1), NONE);
      for (int p : NEVER) {
        due("" + p, x.hold(0, p, 0, 1), NONE);
      }
      due("look(1)", x.look(1), 1);
    });
    test(5, "from below to: by one can be", () -> {
      SleepKeeper x = ofParts(1);
      due("hold(0, 0, 30, 31)", x.hold(0, 0, 30, 31), 0);
      due("when(0)", x.when(0), 1L << 30);
    });
    test(5, "from not below to can't be", () -> {
      SleepKeeper x = ofParts(1);
      due("the same", x.hold(0, 0, 30, 30), NONE);
      due("0, 0", x.hold(0, 0, 0, 0), NONE);
      due("64, 64", x.hold(0, 0, 64, 64), NONE);
      due("above", x.hold(0, 0, 31, 30), NONE);
      due("far above", x.hold(0, 0, MOST, LEAST), NONE);
      due("look(1)", x.look(1), 0);
    });
    test(5, "from TICK 0 on can be", () -> {
      SleepKeeper x = ofParts(1);
      due("hold(0, 0, 0, 1)", x.hold(0, 0, 0, 1), 0);
      due("when(0)", x.when(0), 1L);
    });
    test(5, "from below TICK 0 can't be", () -> {
      SleepKeeper x = ofParts(1);
      due("-1", x.hold(0, 0, -1, 1), NONE);
      due("-1, 0", x.hold(0, 0, -1, 0), NONE);
      due("least", x.hold(0, 0, LEAST, 1), NONE);
      due("when(0)", x.when(0), 0);
    });
    test(5, "to 64 can be", () -> {
      SleepKeeper x = ofParts(1);
      due("hold(0, 0, 63, 64)", x.hold(0, 0, 63, 64), 0);
      due("when(0)", x.when(0), Long.MIN_VALUE);
      due("hold(0, 0, 0, 64)", x.hold(0, 0, 0, 64), 1);
      due("when(0)", x.when(0), -1L);
    });
    test(5, "to above 64 can't be", () -> {
      SleepKeeper x = ofParts(1);
      due("65", x.hold(0, 0, 0, 65), NONE);
      due("64, 65", x.hold(0, 0, 64, 65), NONE);
      due("most", x.hold(0, 0, 0, MOST), NONE);
      due("when(0)", x.when(0), 0);
    });
    test(5, "its number: as they come, a refused one takes none", () -> {
      SleepKeeper x = ofParts(1);
      for (int i = 0; i < 20; i++) {
        due("refused", x.hold(0, 0, 5, 5), NONE);
        due("hold " + i, x.hold(0, 0, 5, 6), i);
      }
    });
    test(5, "there are 20: no 21st", () -> {
      SleepKeeper x = full();
      due("when(5) ahead", x.when(5) >>> 30 & 1, 0);
      due("a 21st", x.hold(0, 5, 30, 31), NONE);
      due("look(1)", x.look(1), 20);
      due("wanted(5, 30)", x.wanted(5, 30), 0);
      due("held(20, 0)", x.held(20, 0), NONE);
    });
    test(5, "there are 20, one of them without TICKS: no 21st", () -> {
      SleepKeeper x = full();
      due("back(0, 0)", x.back(0, 0), true);
      due("a 21st", x.hold(0, 5, 30, 31), NONE);
      due("look(1)", x.look(1), 20);
    });
    test(5, "two HOLDS of the same: both are there", () -> {
      SleepKeeper x = ofParts(1);
      due("one", x.hold(1, 0, 5, 6), 0);
      due("two", x.hold(1, 0, 5, 6), 1);
      x.back(0, 5);
      due("the other still wants it", x.wanted(0, 5), 1);
    });
  }

  // ---- promise 6

  private static void back() {
    test(6, "none such", () -> {
      SleepKeeper x = ofParts(1);
      x.hold(0, 0, 0, 64);
      for (int i : NEVER) {
        due("back(" + i + ", 5)", x.back(i, 5), false);
      }
      due("back(1, 5) of one", x.back(1, 5), false);
      due("when(0)", x.when(0), -1L);
      SleepKeeper most = full();
      due("back(20, 5) of 20", most.back(20, 5), false);
      due("back(19, 19)", most.back(19, 19), true);
    });
    test(6, "not within: ahead of from", () -> {
      SleepKeeper x = ofParts(1);
      x.hold(0, 0, 10, 20);
      due("9", x.back(0, 9), false);
      due("-1", x.back(0, -1), false);
      due("least", x.back(0, LEAST), false);
      due("to", x.held(0, 3), 20);
    });
    test(6, "not within: to and behind", () -> {
      SleepKeeper x = ofParts(1);
      x.hold(0, 0, 10, 20);
      x.hold(0, 0, 10, 64);
      due("20", x.back(0, 20), false);
      due("21", x.back(0, 21), false);
      due("most", x.back(0, MOST), false);
      due("64", x.back(1, 64), false);
      due("to", x.held(0, 3), 20);
      due("to", x.held(1, 3), 64);
    });
    test(6, "to - 1: it ends ahead of it", () -> {
      SleepKeeper x = ofParts(1);
      x.hold(0, 0, 10, 64);
      due("63", x.back(0, 63), true);
      due("to", x.held(0, 3), 63);
      due("62", x.wanted(0, 62), 1);
      due("63", x.wanted(0, 63), 0);
    });
    test(6, "from: it has no TICK any more", () -> {
      SleepKeeper x = ofParts(2);
      x.need(0, 1, true);
      x.hold(3, 0, 10, 20);
      due("10", x.back(0, 10), true);
      due("when(0)", x.when(0), 0);
      due("when(1)", x.when(1), 0);
      due("blame(3)", x.blame(3), 0);
      due("order(10, 0)", x.order(10, 0), NONE);
    });
    test(6, "from at TICK 0 and at TICK 63", () -> {
      SleepKeeper x = ofParts(1);
      x.hold(0, 0, 0, 64);
      x.hold(0, 0, 63, 64);
      due("0", x.back(0, 0), true);
      due("when(0)", x.when(0), 1L << 63);
      due("63", x.back(1, 63), true);
      due("when(0)", x.when(0), 0);
    });
    test(6, "without TICKS nothing is within", () -> {
      SleepKeeper x = ofParts(1);
      x.hold(0, 0, 10, 20);
      x.back(0, 10);
      for (int tick = -1; tick <= 64; tick++) {
        due("back(0, " + tick + ")", x.back(0, tick), false);
      }
    });
    test(6, "given back once, within is what is left", () -> {
      SleepKeeper x = ofParts(1);
      x.hold(0, 0, 10, 20);
      due("15", x.back(0, 15), true);
      due("15 again", x.back(0, 15), false);
      due("later", x.back(0, 17), false);
      due("earlier", x.back(0, 14), true);
      due("when(0)", x.when(0), 15L << 10);
    });
    test(6, "a HOLD without TICKS keeps its number, and others keep theirs", () -> {
      SleepKeeper x = ofParts(1);
      x.hold(1, 0, 10, 20);
      x.hold(2, 0, 30, 40);
      x.back(0, 10);
      due("look(1)", x.look(1), 2);
      due("held(0, 0)", x.held(0, 0), 1);
      due("held(1, 0)", x.held(1, 0), 2);
      due("the next", x.hold(3, 0, 5, 6), 2);
    });
  }

  // ---- promise 7

  private static void timer() {
    test(7, "PROGRAMS are 0 .. 7", () -> {
      SleepKeeper x = ofParts(1);
      due("0", x.timer(0, 0, 0, 1), 0);
      due("7", x.timer(7, 0, 0, 1), 1);
      due("8", x.timer(8, 0, 0, 1), NONE);
      for (int program : NEVER) {
        due("" + program, x.timer(program, 0, 0, 1), NONE);
      }
      due("look(2)", x.look(2), 2);
    });
    test(7, "no such PART", () -> {
      SleepKeeper x = ofParts(5);
      due("4", x.timer(0, 4, 0, 1), 0);
      due("5 of 0 .. 4", x.timer(0, 5, 0, 1), NONE);
      for (int p : NEVER) {
        due("" + p, x.timer(0, p, 0, 1), NONE);
      }
      due("look(2)", x.look(2), 1);
    });
    test(7, "first not above last: the same can be", () -> {
      SleepKeeper x = ofParts(1);
      due("timer(0, 0, 30, 30)", x.timer(0, 0, 30, 30), 0);
      due("when(0)", x.when(0), 1L << 30);
    });
    test(7, "first above last can't be", () -> {
      SleepKeeper x = ofParts(1);
      due("by one", x.timer(0, 0, 31, 30), NONE);
      due("far", x.timer(0, 0, 63, 0), NONE);
      due("farther", x.timer(0, 0, MOST, LEAST), NONE);
      due("look(2)", x.look(2), 0);
      due("look(3)", x.look(3), 0);
    });
    test(7, "within TICKS: first 0 can be, below it can't", () -> {
      SleepKeeper x = ofParts(1);
      due("-1", x.timer(0, 0, -1, 5), NONE);
      due("-1, -1", x.timer(0, 0, -1, -1), NONE);
      due("least", x.timer(0, 0, LEAST, 5), NONE);
      due("when(0)", x.when(0), 0);
      due("0, 0", x.timer(0, 0, 0, 0), 0);
      due("when(0)", x.when(0), 1L);
    });
    test(7, "within TICKS: last 63 can be, above it can't", () -> {
      SleepKeeper x = ofParts(1);
      due("64", x.timer(0, 0, 5, 64), NONE);
      due("64, 64", x.timer(0, 0, 64, 64), NONE);
      due("most", x.timer(0, 0, 5, MOST), NONE);
      due("when(0)", x.when(0), 0);
      due("63, 63", x.timer(0, 0, 63, 63), 0);
      due("when(0)", x.when(0), 1L << 63);
      due("0, 63", x.timer(0, 0, 0, 63), 1);
      due("when(0)", x.when(0), 1L << 63);
    });
    test(7, "its number: as they come, a refused one takes none", () -> {
      SleepKeeper x = ofParts(1);
      for (int i = 0; i < 12; i++) {
        due("refused", x.timer(0, 0, 6, 5), NONE);
        due("timer " + i, x.timer(0, 0, 5, 6), i);
      }
    });
    test(7, "there are 12: no 13th", () -> {
      SleepKeeper x = full();
      due("a 13th", x.timer(0, 0, 25, 25), NONE);
      due("look(2)", x.look(2), 12);
      due("look(3)", x.look(3), 12);
      due("wanted(0, 25)", x.wanted(0, 25), 0);
      due("fires(12)", x.fires(12), NONE);
    });
    test(7, "HOLDS and TIMERS are counted apart", () -> {
      SleepKeeper holds = ofParts(1);
      SleepKeeper timers = ofParts(1);
      for (int i = 0; i < 20; i++) {
        holds.hold(0, 0, 0, 1);
      }
      for (int i = 0; i < 12; i++) {
        timers.timer(0, 0, 0, 1);
      }
      due("a TIMER beside 20 HOLDS", holds.timer(0, 0, 0, 1), 0);
      due("a HOLD beside 12 TIMERS", timers.hold(0, 0, 0, 1), 0);
    });
  }

  // ---- promise 8

  private static void dueRule(boolean can, int doze, int sleep, int off) {
    SleepKeeper x = onePart(40, 30, 20, 10);
    due("rule(0, " + doze + ", " + sleep + ", " + off + ")", x.rule(0, doze, sleep, off), can);
    String want = can
        ? many("0", doze) + many("1", sleep - doze) + many("2", off - sleep) + many("3", 64 - off)
        : many("0", 64);
    due("STATES", ruledStates(x, 0, 0, 64), want);
  }

  private static void rule() {
    test(8, "at first 64, 64, 64", () -> {
      SleepKeeper x = onePart(40, 30, 20, 10);
      due("STATES", ruledStates(x, 0, 0, 64), many("0", 64));
      due("ruled(0)", x.ruled(0), 2560);
    });
    test(8, "0 can be", () -> {
      dueRule(true, 0, 0, 0);
      dueRule(true, 0, 20, 40);
      dueRule(true, 0, 0, 40);
    });
    test(8, "below 0 can't be", () -> {
      dueRule(false, -1, 20, 40);
      dueRule(false, -1, -1, 40);
      dueRule(false, -1, -1, -1);
      dueRule(false, LEAST, 20, 40);
      dueRule(false, 0, -1, 40);
      dueRule(false, 0, 0, -1);
    });
    test(8, "64 can be", () -> {
      dueRule(true, 64, 64, 64);
      dueRule(true, 10, 64, 64);
      dueRule(true, 10, 20, 64);
      dueRule(true, 62, 63, 64);
    });
    test(8, "above 64 can't be", () -> {
      dueRule(false, 10, 20, 65);
      dueRule(false, 10, 65, 65);
      dueRule(false, 65, 65, 65);
      dueRule(false, 10, 20, MOST);
    });
    test(8, "none below the one ahead: the same can be", () -> {
      dueRule(true, 20, 20, 40);
      dueRule(true, 10, 40, 40);
      dueRule(true, 30, 30, 30);
    });
    test(8, "below the one ahead can't be", () -> {
      dueRule(false, 20, 19, 40);
      dueRule(false, 10, 40, 39);
      dueRule(false, 64, 63, 64);
    });
    test(8, "no such PART", () -> {
      SleepKeeper x = ofParts(5);
      for (int p : NEVER) {
        due("rule(" + p + ", ..)", x.rule(p, 0, 0, 0), false);
      }
      due("rule(5, ..) of 0 .. 4", x.rule(5, 0, 0, 0), false);
      due("rule(4, ..)", x.rule(4, 0, 0, 0), true);
      due("PART 3 as at first", x.ruled(3), 640);
      x.part(10, 5, 2, 1);
      due("PART 5 as at first", x.ruled(5), 640);
    });
    test(8, "a refused one leaves the RULE that was", () -> {
      SleepKeeper x = onePart(40, 30, 20, 10);
      x.rule(0, 5, 6, 7);
      due("refused", x.rule(0, 0, 0, 65), false);
      due("STATES", ruledStates(x, 0, 0, 64), "0000012" + many("3", 57));
    });
  }

  // ---- promises 9 and 10

  private static void look() {
    test(9, "of none: 0", () -> {
      SleepKeeper x = ofParts(1);
      due("look(1)", x.look(1), 0);
      due("look(2)", x.look(2), 0);
      due("look(3)", x.look(3), 0);
    });
    test(9, "of all that can be: 6, 20, 12, 12", () -> {
      SleepKeeper x = full();
      due("look(0)", x.look(0), 6);
      due("look(1)", x.look(1), 20);
      due("look(2)", x.look(2), 12);
      due("look(3)", x.look(3), 12);
    });
    test(9, "NONE for another what", () -> {
      SleepKeeper x = full();
      due("look(4)", x.look(4), NONE);
      for (int what : NEVER) {
        due("look(" + what + ")", x.look(what), NONE);
      }
    });
  }

  private static void held() {
    test(10, "the least and the most of each", () -> {
      SleepKeeper x = ofParts(6);
      x.hold(0, 0, 0, 1);
      x.hold(7, 5, 63, 64);
      int[] least = {0, 0, 0, 1};
      int[] most = {7, 5, 63, 64};
      for (int what = 0; what < 4; what++) {
        due("held(0, " + what + ")", x.held(0, what), least[what]);
        due("held(1, " + what + ")", x.held(1, what), most[what]);
      }
    });
    test(10, "none such", () -> {
      SleepKeeper x = ofParts(1);
      due("held(0, 0) of none", x.held(0, 0), NONE);
      x.hold(3, 0, 5, 6);
      due("held(1, 0) of one", x.held(1, 0), NONE);
      for (int i : NEVER) {
        due("held(" + i + ", 0)", x.held(i, 0), NONE);
      }
      SleepKeeper most = full();
      due("held(19, 0) of 20", most.held(19, 0), 3);
      due("held(20, 0) of 20", most.held(20, 0), NONE);
    });
    test(10, "another what", () -> {
      SleepKeeper x = full();
      due("held(5, 4)", x.held(5, 4), NONE);
      for (int what : NEVER) {
        due("held(5, " + what + ")", x.held(5, what), NONE);
      }
    });
    test(10, "given back at its first TICK: from and to are that TICK", () -> {
      SleepKeeper x = ofParts(2);
      x.hold(4, 1, 10, 20);
      x.back(0, 10);
      int[] want = {4, 1, 10, 10};
      for (int what = 0; what < 4; what++) {
        due("held(0, " + what + ")", x.held(0, what), want[what]);
      }
    });
  }

  // ---- promises 11 and 12

  private static String wakings(int... windows) {
    SleepKeeper x = ofParts(1);
    for (int i = 0; i + 1 < windows.length; i += 2) {
      x.timer(0, 0, windows[i], windows[i + 1]);
    }
    StringBuilder text = new StringBuilder();
    for (int i = 0; i < x.look(3); i++) {
      text.append(i == 0 ? "" : " ").append(x.waking(i));
    }
    due("waking(look(3))", x.waking(x.look(3)), NONE);
    return text.toString();
  }

  private static void waking() {
    test(11, "no TIMERS, no WAKINGS", () -> {
      due("WAKINGS", wakings(), "");
      SleepKeeper x = ofParts(1);
      x.hold(0, 0, 5, 6);
      due("a HOLD is none", x.waking(0), NONE);
    });
    test(11, "none such", () -> {
      SleepKeeper x = full();
      due("waking(11) of 12", x.waking(11), 52);
      due("waking(12) of 12", x.waking(12), NONE);
      for (int i : NEVER) {
        due("waking(" + i + ")", x.waking(i), NONE);
      }
    });
    test(11, "rising, in whatever order the TIMERS come", () -> {
      due("WAKINGS", wakings(50, 51, 0, 1, 30, 31, 10, 11), "1 11 31 51");
    });
    test(11, "the latest that can be: the last TICK of a window", () -> {
      due("all TICKS", wakings(0, 63), "63");
      due("all but the last", wakings(0, 62), "62");
    });
    test(11, "a window of one TICK, at both ends", () -> {
      due("0 and 63", wakings(63, 63, 0, 0), "0 63");
    });
    test(11, "windows that share one TICK have one WAKING", () -> {
      due("10 .. 20, 20 .. 30", wakings(10, 20, 20, 30), "20");
      due("the other way round", wakings(20, 30, 10, 20), "20");
    });
    test(11, "windows side by side have two", () -> {
      due("10 .. 20, 21 .. 30", wakings(10, 20, 21, 30), "20 30");
    });
    test(11, "windows that end alike have one, the widest and the narrowest", () -> {
      due("to 40", wakings(0, 40, 40, 40, 13, 40), "40");
    });
    test(11, "a window within another: the one that ends first says where", () -> {
      due("0 .. 63 around 10 .. 20", wakings(0, 63, 10, 20), "20");
    });
    test(11, "that which ends first among those that have none yet", () -> {
      due("the middle one has one already", wakings(0, 10, 5, 20, 11, 30), "10 30");
      due("the middle one has none", wakings(0, 10, 11, 20, 15, 30), "10 20");
    });
    test(11, "as few as can be: twelve of the same window have one", () -> {
      int[] same = new int[24];
      for (int i = 0; i < 12; i++) {
        same[2 * i] = 7;
        same[2 * i + 1] = 9;
      }
      due("WAKINGS", wakings(same), "9");
    });
    test(11, "as many as can be: twelve windows apart have twelve", () -> {
      due("WAKINGS", wakings(55, 60, 50, 54, 45, 49, 40, 44, 35, 39, 30, 34, 25, 29, 20, 24, 15, 19, 10, 14, 5, 9, 0, 4),
          "4 9 14 19 24 29 34 39 44 49 54 60");
    });
    test(11, "a new TIMER may take a WAKING away", () -> {
      SleepKeeper x = ofParts(1);
      x.timer(0, 0, 10, 20);
      x.timer(0, 0, 15, 30);
      due("one", x.waking(0), 20);
      x.timer(0, 0, 12, 14);
      due("earlier", x.waking(0), 14);
      due("and another one", x.waking(1), 30);
      due("20 is none any more", x.wanted(0, 20), 0);
    });
  }

  private static void fires() {
    test(12, "none such", () -> {
      SleepKeeper x = ofParts(1);
      due("fires(0) of none", x.fires(0), NONE);
      x.timer(0, 0, 5, 6);
      due("fires(1) of one", x.fires(1), NONE);
      for (int i : NEVER) {
        due("fires(" + i + ")", x.fires(i), NONE);
      }
      SleepKeeper most = full();
      due("fires(11) of 12", most.fires(11), 52);
      due("fires(12) of 12", most.fires(12), NONE);
    });
    test(12, "TICKS 0 and 63", () -> {
      SleepKeeper x = ofParts(1);
      x.timer(0, 0, 0, 0);
      x.timer(0, 0, 63, 63);
      due("fires(0)", x.fires(0), 0);
      due("fires(1)", x.fires(1), 63);
    });
    test(12, "the least WAKING within its window, of as many as there are", () -> {
      SleepKeeper x = ofParts(1);
      x.timer(0, 0, 0, 63);
      for (int i = 1; i < 12; i++) {
        x.timer(0, 0, 5 * i, 5 * i);
      }
      due("fires(0)", x.fires(0), 5);
    });
    test(12, "a WAKING at the first and at the last TICK of the window", () -> {
      SleepKeeper x = ofParts(1);
      x.timer(0, 0, 10, 20);
      x.timer(0, 0, 20, 40);
      x.timer(0, 0, 5, 30);
      due("its last", x.fires(0), 20);
      due("its first", x.fires(1), 20);
      due("between", x.fires(2), 20);
    });
    test(12, "a WAKING a TICK ahead of the window is not its", () -> {
      SleepKeeper x = ofParts(1);
      x.timer(0, 0, 10, 20);
      x.timer(0, 0, 21, 40);
      due("fires(1)", x.fires(1), 40);
    });
    test(12, "two TIMERS of a PART at one WAKING want it there alone", () -> {
      SleepKeeper x = ofParts(1);
      x.timer(0, 0, 10, 20);
      x.timer(1, 0, 15, 40);
      due("when(0)", x.when(0), 1L << 20);
    });
    test(12, "of several WAKINGS within its window a TIMER wants at the least alone", () -> {
      SleepKeeper x = ofParts(2);
      x.timer(3, 0, 0, 63);
      x.timer(4, 1, 10, 10);
      x.timer(4, 1, 20, 20);
      due("fires(0)", x.fires(0), 10);
      due("when(0)", x.when(0), 1L << 10);
      due("blame(3)", x.blame(3), 8400);
    });
    test(12, "a TIMER of another PART takes part in the WAKINGS, but does not want this one", () -> {
      SleepKeeper x = ofParts(2);
      x.timer(0, 0, 10, 20);
      x.timer(0, 1, 5, 12);
      due("fires(0)", x.fires(0), 12);
      due("when(0)", x.when(0), 1L << 12);
      x.timer(0, 1, 30, 31);
      due("not at 31", x.wanted(0, 31), 0);
    });
  }

  // ---- promises 13 and 14

  private static void wanted() {
    test(13, "no such PART", () -> {
      SleepKeeper x = ofParts(5);
      x.hold(0, 4, 0, 64);
      due("wanted(4, 0)", x.wanted(4, 0), 1);
      due("wanted(5, 0) of 0 .. 4", x.wanted(5, 0), NONE);
      for (int p : NEVER) {
        due("wanted(" + p + ", 0)", x.wanted(p, 0), NONE);
      }
      due("wanted(6, 0) of six", full().wanted(6, 0), NONE);
    });
    test(13, "TICKS are 0 .. 63", () -> {
      SleepKeeper x = ofParts(1);
      x.hold(0, 0, 0, 64);
      due("wanted(0, 0)", x.wanted(0, 0), 1);
      due("wanted(0, 63)", x.wanted(0, 63), 1);
      for (int tick : NEVER) {
        due("wanted(0, " + tick + ")", x.wanted(0, tick), NONE);
      }
      due("wanted(0, 65)", x.wanted(0, 65), NONE);
    });
    test(13, "a HOLD has its TICK from, and not its TICK to", () -> {
      SleepKeeper x = ofParts(1);
      x.hold(0, 0, 10, 12);
      due("9", x.wanted(0, 9), 0);
      due("10", x.wanted(0, 10), 1);
      due("11", x.wanted(0, 11), 1);
      due("12", x.wanted(0, 12), 0);
    });
    test(13, "a TIMER wants at its WAKING, at no other TICK of its window", () -> {
      SleepKeeper x = ofParts(1);
      x.timer(0, 0, 10, 12);
      for (int tick = 8; tick < 15; tick++) {
        due("" + tick, x.wanted(0, tick), tick == 12 ? 1 : 0);
      }
    });
    test(13, "a chain of all six, along the numbers and against them", () -> {
      SleepKeeper up = ofParts(6);
      SleepKeeper down = ofParts(6);
      for (int p = 0; p < 5; p++) {
        up.need(p, p + 1, true);
        down.need(p + 1, p, true);
      }
      up.hold(0, 0, 63, 64);
      up.timer(0, 2, 0, 0);
      down.hold(0, 5, 63, 64);
      down.timer(0, 3, 0, 0);
      for (int p = 0; p < 6; p++) {
        due("up, PART " + p + " at 63", up.wanted(p, 63), 1);
        due("up, PART " + p + " at 0", up.wanted(p, 0), p >= 2 ? 1 : 0);
        due("down, PART " + p + " at 63", down.wanted(p, 63), 1);
        due("down, PART " + p + " at 0", down.wanted(p, 0), p <= 3 ? 1 : 0);
      }
    });
    test(13, "a NEED that comes behind a HOLD or TIMER counts as one ahead of it", () -> {
      SleepKeeper x = ofParts(3);
      x.hold(0, 0, 5, 6);
      x.timer(0, 0, 8, 8);
      x.need(1, 2, true);
      x.need(0, 1, true);
      due("when(2)", x.when(2), 1L << 5 | 1L << 8);
    });
  }

  private static void when() {
    test(14, "no such PART: 0", () -> {
      SleepKeeper x = ofParts(5);
      for (int p = 0; p < 5; p++) {
        x.hold(0, p, 0, 64);
      }
      due("when(4)", x.when(4), -1L);
      due("when(5) of 0 .. 4", x.when(5), 0);
      for (int p : NEVER) {
        due("when(" + p + ")", x.when(p), 0);
      }
      due("when(6) of six", full().when(6), 0);
    });
    test(14, "no TICK: 0", () -> due("when(0)", ofParts(1).when(0), 0));
    test(14, "TICK 0 is the lowest bit, TICK 63 the highest", () -> {
      SleepKeeper x = ofParts(3);
      x.hold(0, 0, 0, 1);
      x.hold(0, 1, 63, 64);
      x.hold(0, 2, 31, 33);
      due("when(0)", x.when(0), 1L);
      due("when(1)", x.when(1), Long.MIN_VALUE);
      due("when(2)", x.when(2), 0x180000000L);
    });
    test(14, "all TICKS: -1", () -> {
      SleepKeeper x = ofParts(1);
      x.hold(0, 0, 0, 32);
      due("half", x.when(0), 0xFFFFFFFFL);
      x.hold(0, 0, 32, 64);
      due("all", x.when(0), -1L);
    });
  }

  // ---- promises 15 and 16

  private static void spans() {
    test(15, "no such PART", () -> {
      SleepKeeper x = ofParts(5);
      due("spans(4)", x.spans(4), 1);
      due("spans(5) of 0 .. 4", x.spans(5), NONE);
      for (int p : NEVER) {
        due("spans(" + p + ")", x.spans(p), NONE);
      }
      due("spans(6) of six", full().spans(6), NONE);
    });
    test(15, "never WANTED: one SPAN of 64", () -> {
      SleepKeeper x = ofParts(1);
      due("spans(0)", x.spans(0), 1);
      due("first", x.span(0, 0, 0), 0);
      due("len", x.span(0, 0, 1), 64);
    });
    test(15, "always WANTED: no SPAN", () -> {
      SleepKeeper x = ofParts(1);
      x.hold(0, 0, 0, 64);
      due("spans(0)", x.spans(0), 0);
    });
    test(15, "SPANS of one TICK at both ends", () -> {
      SleepKeeper x = ofParts(1);
      x.hold(0, 0, 1, 63);
      due("spans(0)", x.spans(0), 2);
      due("first of 0", x.span(0, 0, 0), 0);
      due("len of 0", x.span(0, 0, 1), 1);
      due("first of 1", x.span(0, 1, 0), 63);
      due("len of 1", x.span(0, 1, 1), 1);
    });
    test(15, "as many TICKS as there are: the ends of all TICKS don't meet", () -> {
      SleepKeeper x = ofParts(1);
      x.hold(0, 0, 30, 31);
      due("spans(0)", x.spans(0), 2);
      due("len of 0", x.span(0, 0, 1), 30);
      due("len of 1", x.span(0, 1, 1), 33);
    });
    test(15, "WANTED at both ends: one SPAN between", () -> {
      SleepKeeper x = ofParts(1);
      x.hold(0, 0, 0, 1);
      x.hold(0, 0, 63, 64);
      due("spans(0)", x.spans(0), 1);
      due("first", x.span(0, 0, 0), 1);
      due("len", x.span(0, 0, 1), 62);
    });
    test(15, "HOLDS side by side leave no SPAN between, a TICK apart one", () -> {
      SleepKeeper x = ofParts(1);
      x.hold(0, 0, 0, 30);
      x.hold(0, 0, 30, 40);
      x.hold(0, 0, 41, 64);
      due("spans(0)", x.spans(0), 1);
      due("first", x.span(0, 0, 0), 40);
      due("len", x.span(0, 0, 1), 1);
    });
    test(15, "as many as there can be: 32", () -> {
      SleepKeeper even = ofParts(1);
      SleepKeeper odd = ofParts(1);
      for (int i = 0; i < 32; i++) {
        if (i < 20) {
          even.hold(0, 0, 2 * i, 2 * i + 1);
          odd.hold(0, 0, 2 * i + 1, 2 * i + 2);
        } else {
          even.timer(0, 0, 2 * i, 2 * i);
          odd.timer(0, 0, 2 * i + 1, 2 * i + 1);
        }
      }
      due("spans of the odd TICKS", even.spans(0), 32);
      due("spans of the even TICKS", odd.spans(0), 32);
      for (int i = 0; i < 32; i++) {
        due("SPAN " + i, even.span(0, i, 0), 2 * i + 1);
        due("SPAN " + i, odd.span(0, i, 0), 2 * i);
        due("len of SPAN " + i, even.span(0, i, 1), 1);
      }
      due("the last one RISES", odd.span(0, 31, 5), 63);
      due("the last one does not RISE", even.span(0, 31, 5), NONE);
      due("no 33rd", odd.span(0, 32, 0), NONE);
    });
  }

  private static void dueSpan(SleepKeeper x, int i, int... want) {
    for (int what = 0; what < want.length; what++) {
      due("span(0, " + i + ", " + what + ")", x.span(0, i, what), want[what]);
    }
  }

  private static void span() {
    test(16, "no such PART", () -> {
      SleepKeeper x = ofParts(5);
      due("span(4, 0, 1)", x.span(4, 0, 1), 64);
      due("span(5, 0, 1) of 0 .. 4", x.span(5, 0, 1), NONE);
      for (int p : NEVER) {
        due("span(" + p + ", 0, 1)", x.span(p, 0, 1), NONE);
      }
      due("span(6, 0, 1) of six", full().span(6, 0, 1), NONE);
    });
    test(16, "no such SPAN", () -> {
      SleepKeeper x = ofParts(1);
      x.hold(0, 0, 10, 12);
      due("span(0, 1, 0)", x.span(0, 1, 0), 12);
      for (int what = 0; what < 6; what++) {
        due("span(0, 2, " + what + ")", x.span(0, 2, what), NONE);
        due("span(0, -1, " + what + ")", x.span(0, -1, what), NONE);
      }
      for (int i : NEVER) {
        due("span(0, " + i + ", 0)", x.span(0, i, 0), NONE);
      }
    });
    test(16, "no SPANS at all: none such", () -> {
      SleepKeeper x = ofParts(2);
      x.hold(0, 0, 0, 64);
      due("another PART's SPAN", x.span(1, 0, 1), 64);
      for (int what = 0; what < 6; what++) {
        due("span(0, 0, " + what + ")", x.span(0, 0, what), NONE);
      }
    });
    test(16, "fewer SPANS than ahead: the others are there no more", () -> {
      SleepKeeper x = ofParts(1);
      x.hold(0, 0, 10, 11);
      x.hold(0, 0, 20, 21);
      due("the third", x.span(0, 2, 0), 21);
      x.back(1, 20);
      due("no third", x.span(0, 2, 0), NONE);
      due("the second is longer", x.span(0, 1, 1), 53);
    });
    test(16, "another what", () -> {
      SleepKeeper x = ofParts(1);
      due("span(0, 0, 6)", x.span(0, 0, 6), NONE);
      for (int what : NEVER) {
        due("span(0, 0, " + what + ")", x.span(0, 0, what), NONE);
      }
    });
    test(16, "4: what it would AWAKE, of 1 TICK and of 64", () -> {
      SleepKeeper x = onePart(99, 0, 0, 0);
      due("64 TICKS", x.span(0, 0, 4), 6336);
      x.rise(0, 999, 999, 999, 9, 9, 9);
      x.hold(0, 0, 1, 64);
      due("1 TICK", x.span(0, 0, 4), 99);
    });
    test(16, "5: NONE if it is AWAKE", () -> {
      SleepKeeper x = oneSpan(onePart(10, 10, 10, 10), 20);
      dueSpan(x, 0, 0, 20, 0, 200, 200, NONE);
    });
    test(16, "5: NONE at the end of all TICKS", () -> {
      SleepKeeper x = apart();
      x.hold(0, 0, 0, 44);
      dueSpan(x, 0, 44, 20, 3, 20, 200, NONE);
    });
    test(16, "5: with RISING 0 the TICK behind the SPAN, with 9 nine ahead of it", () -> {
      SleepKeeper x = oneSpan(ofParts(1), 20);
      dueSpan(x, 0, 0, 20, 3, 20, 200, 20);
      x.rise(0, 0, 0, 0, 9, 9, 9);
      dueSpan(x, 0, 0, 20, 3, 11 + 90, 200, 11);
    });
    test(16, "5: at TICK 63, if that alone is WANTED and RISING is 0", () -> {
      SleepKeeper x = oneSpan(ofParts(1), 63);
      dueSpan(x, 0, 0, 63, 3, 63, 630, 63);
    });
  }

  /** One SPAN of len TICKS with TICKS behind it, RISING 0 of all STATES. */
  private static void dueChoice(int[] drains, int[] costs, int len, int state, int sum) {
    SleepKeeper x = onePart(drains[0], drains[1], drains[2], drains[3]);
    x.rise(0, costs[0], costs[1], costs[2], 0, 0, 0);
    dueSpan(oneSpan(x, len), 0, 0, len, state, sum, len * drains[0], state == 0 ? NONE : len);
  }

  /** Of each two STATES: a SPAN of 4 TICKS in which both have the least sum, and one of 5 in which one has it. */
  private static void planTies() {
    test(16, "of several the least number: AWAKE and DOZE", () -> {
      dueChoice(new int[] {10, 5, 5, 5}, new int[] {20, 21, 22}, 4, 0, 40);
      dueChoice(new int[] {10, 5, 5, 5}, new int[] {20, 21, 22}, 5, 1, 45);
    });
    test(16, "of several the least number: AWAKE and SLEEP", () -> {
      dueChoice(new int[] {10, 10, 4, 4}, new int[] {1, 24, 25}, 4, 0, 40);
      dueChoice(new int[] {10, 10, 4, 4}, new int[] {1, 24, 25}, 5, 2, 44);
    });
    test(16, "of several the least number: AWAKE and OFF", () -> {
      dueChoice(new int[] {10, 10, 10, 0}, new int[] {1, 1, 40}, 4, 0, 40);
      dueChoice(new int[] {10, 10, 10, 0}, new int[] {1, 1, 40}, 5, 3, 40);
    });
    test(16, "of several the least number: DOZE and SLEEP", () -> {
      dueChoice(new int[] {10, 5, 1, 1}, new int[] {0, 16, 17}, 4, 1, 20);
      dueChoice(new int[] {10, 5, 1, 1}, new int[] {0, 16, 17}, 5, 2, 21);
    });
    test(16, "of several the least number: DOZE and OFF", () -> {
      dueChoice(new int[] {10, 6, 6, 0}, new int[] {0, 1, 24}, 4, 1, 24);
      dueChoice(new int[] {10, 6, 6, 0}, new int[] {0, 1, 24}, 5, 3, 24);
    });
    test(16, "of several the least number: SLEEP and OFF", () -> {
      dueChoice(new int[] {10, 9, 5, 1}, new int[] {0, 0, 16}, 4, 2, 20);
      dueChoice(new int[] {10, 9, 5, 1}, new int[] {0, 0, 16}, 5, 3, 21);
    });
    test(16, "of several the least number: all four, with TICKS behind and at the end", () -> {
      SleepKeeper x = onePart(7, 7, 7, 7);
      x.hold(0, 0, 10, 11);
      dueSpan(x, 0, 0, 10, 0, 70, 70, NONE);
      dueSpan(x, 1, 11, 53, 0, 371, 371, NONE);
    });
    test(16, "of several the least number, at the end of all TICKS", () -> {
      SleepKeeper two = onePart(7, 3, 3, 3);
      dueSpan(two, 0, 0, 64, 1, 192, 448, NONE);
      SleepKeeper three = onePart(7, 7, 3, 3);
      dueSpan(three, 0, 0, 64, 2, 192, 448, NONE);
      SleepKeeper four = onePart(7, 7, 7, 3);
      dueSpan(four, 0, 0, 64, 3, 192, 448, NONE);
    });
  }

  private static void planRising() {
    test(16, "RISING as long as the SPAN: no gain, so AWAKE", () -> {
      SleepKeeper x = onePart(10, 0, 0, 0);
      x.rise(0, 0, 0, 0, 9, 9, 9);
      dueSpan(oneSpan(x, 9), 0, 0, 9, 0, 90, 90, NONE);
    });
    test(16, "RISING one less than the SPAN: a TICK of the STATE", () -> {
      SleepKeeper x = onePart(10, 0, 0, 0);
      x.rise(0, 0, 0, 0, 9, 9, 9);
      dueSpan(oneSpan(x, 10), 0, 0, 10, 1, 90, 100, 1);
    });
    test(16, "RISING above the SPAN: the STATE can't be", () -> {
      SleepKeeper x = onePart(99, 50, 0, 0);
      x.rise(0, 0, 0, 0, 0, 3, 9);
      dueSpan(oneSpan(x, 2), 0, 0, 2, 1, 100, 198, 2);
      SleepKeeper y = onePart(99, 99, 99, 0);
      y.rise(0, 0, 0, 0, 9, 9, 9);
      dueSpan(oneSpan(y, 1), 0, 0, 1, 0, 99, 99, NONE);
    });
    test(16, "at the end of all TICKS neither RISING nor COST: even for one TICK", () -> {
      SleepKeeper x = onePart(10, 9, 8, 7);
      x.rise(0, 999, 999, 999, 9, 9, 9);
      x.hold(0, 0, 0, 63);
      dueSpan(x, 0, 63, 1, 3, 7, 10, NONE);
    });
    test(16, "a SPAN up to TICK 62 is not at the end of all TICKS", () -> {
      SleepKeeper x = onePart(10, 9, 8, 7);
      x.rise(0, 999, 999, 999, 9, 9, 9);
      x.hold(0, 0, 0, 62);
      x.hold(0, 0, 63, 64);
      dueSpan(x, 0, 62, 1, 0, 10, 10, NONE);
    });
    test(16, "ahead of all it is AWAKE: it may go into a STATE at TICK 0, and pays to RISE", () -> {
      SleepKeeper x = oneSpan(apart(), 60);
      // OFF: 57 * 1 + 30 + 300; SLEEP: 58 * 3 + 20 + 200; DOZE: 59 * 6 + 10 + 100
      dueSpan(x, 0, 0, 60, 3, 387, 600, 57);
    });
    test(16, "COST 999 is more than any SPAN saves until it is long enough", () -> {
      SleepKeeper x = onePart(99, 99, 99, 0);
      x.rise(0, 0, 0, 999, 0, 0, 0);
      dueSpan(oneSpan(x, 10), 0, 0, 10, 0, 990, 990, NONE);
      SleepKeeper y = onePart(99, 99, 99, 0);
      y.rise(0, 0, 0, 999, 0, 0, 0);
      dueSpan(oneSpan(y, 11), 0, 0, 11, 3, 999, 1089, 11);
    });
  }

  // ---- promises 17 and 18

  private static void drain() {
    test(17, "no such PART", () -> {
      SleepKeeper x = ofParts(5);
      due("drain(4)", x.drain(4), 64);
      due("drain(5) of 0 .. 4", x.drain(5), NONE);
      for (int p : NEVER) {
        due("drain(" + p + ")", x.drain(p), NONE);
      }
      due("drain(6) of six", full().drain(6), NONE);
    });
    test(17, "always WANTED: AWAKE all along", () -> {
      SleepKeeper x = onePart(99, 0, 0, 0);
      x.hold(0, 0, 0, 64);
      due("drain(0)", x.drain(0), 6336);
    });
    test(17, "never WANTED: the least DRAIN all along", () -> {
      SleepKeeper x = onePart(99, 50, 20, 3);
      x.rise(0, 999, 999, 999, 9, 9, 9);
      due("drain(0)", x.drain(0), 192);
    });
    test(17, "WANTED by many it drains once", () -> {
      SleepKeeper x = onePart(10, 0, 0, 0);
      for (int i = 0; i < 20; i++) {
        x.hold(i % 8, 0, 5, 6);
      }
      due("drain(0)", x.drain(0), 10);
    });
    test(17, "all DRAINS 0: nothing but COSTS, and those are not paid", () -> {
      SleepKeeper x = onePart(0, 0, 0, 0);
      x.rise(0, 999, 999, 999, 9, 9, 9);
      x.hold(0, 0, 30, 31);
      due("drain(0)", x.drain(0), 0);
    });
  }

  private static void ruled() {
    test(18, "no such PART", () -> {
      SleepKeeper x = ofParts(5);
      due("ruled(4)", x.ruled(4), 640);
      due("ruled(5) of 0 .. 4", x.ruled(5), NONE);
      for (int p : NEVER) {
        due("ruled(" + p + ")", x.ruled(p), NONE);
      }
      due("ruled(6) of six", full().ruled(6), NONE);
    });
    test(18, "always WANTED: no RULE matters", () -> {
      SleepKeeper x = ofParts(1);
      x.hold(0, 0, 0, 64);
      x.rule(0, 0, 0, 0);
      due("ruled(0)", x.ruled(0), 640);
    });
    test(18, "the end of all TICKS: no RISING, no COST", () -> {
      SleepKeeper x = onePart(10, 6, 3, 1);
      x.rise(0, 999, 999, 999, 9, 9, 9);
      x.rule(0, 0, 0, 0);
      due("64 TICKS", x.ruled(0), 64);
      x.hold(0, 0, 0, 63);
      due("one TICK", x.ruled(0), 631);
    });
    test(18, "a threshold at the SPAN's length is not reached: no COST", () -> {
      SleepKeeper x = oneSpan(onePart(10, 6, 3, 1), 20);
      x.rise(0, 100, 200, 300, 0, 0, 0);
      x.rule(0, 20, 20, 20);
      due("ruled(0)", x.ruled(0), 640);
    });
    test(18, "a threshold one ahead of the SPAN's length: a TICK and its COST", () -> {
      SleepKeeper x = oneSpan(onePart(10, 6, 3, 1), 20);
      x.rise(0, 100, 200, 300, 0, 0, 0);
      x.rule(0, 19, 20, 20);
      due("DOZE", x.ruled(0), 190 + 6 + 100 + 440);
      x.rule(0, 19, 19, 20);
      due("SLEEP", x.ruled(0), 190 + 3 + 200 + 440);
      x.rule(0, 19, 19, 19);
      due("OFF", x.ruled(0), 190 + 1 + 300 + 440);
    });
    test(18, "each SPAN is told from its own beginning", () -> {
      SleepKeeper x = onePart(10, 0, 0, 0);
      x.rule(0, 3, 64, 64);
      x.hold(0, 0, 3, 4);
      x.hold(0, 0, 8, 64);
      due("3 and 4 TICKS", x.ruled(0), 30 + 10 + 30 + 0 + 560);
      due("STATES", ruledStates(x, 0, 0, 9), "000000010");
    });
  }

  /** By its RULE: what it drains in a SPAN of each length up to behind the last threshold, and its STATES. */
  private static void ruleRising() {
    // places 0, 1 AWAKE, 2, 3 DOZE, 4, 5 SLEEP, from 6 on OFF; RISING 0, 1, 2, 3
    String[] states = {"", "0", "00", "000", "0010", "00110", "001100", "0011200", "00112200", "001122000",
        "0011223000", "00112233000", "001122333000"};
    int[] sums = {0, 10, 20, 30, 136, 142, 152, 255, 258, 268, 369, 370, 371};
    String[] words = {"no SPAN at all", "AWAKE alone", "AWAKE up to its end", "a TICK of DOZE would RISE too late",
        "the latest place is the first TICK behind one of DOZE", "the latest place is the end of DOZE",
        "a TICK of SLEEP would RISE too late", "the latest place is behind one TICK of SLEEP", "the latest place is the end of SLEEP",
        "a TICK of OFF would RISE too late", "the latest place is behind one TICK of OFF", "two TICKS of OFF", "three TICKS of OFF"};
    for (int n = 0; n < sums.length; n++) {
      int len = n;
      test(18, "r and RISING not above len, " + len + " TICKS: " + words[len], () -> {
        SleepKeeper x = oneSpan(apart(), len);
        x.rule(0, 2, 4, 6);
        due("ruled(0)", x.ruled(0), sums[len] + 10 * (64 - len));
        due("STATES", ruledStates(x, 0, 0, len), states[len]);
      });
    }
    test(18, "AWAKE at r 0: RISING as long as the SPAN, no COST", () -> {
      SleepKeeper x = onePart(10, 0, 0, 0);
      x.rise(0, 500, 600, 700, 9, 9, 9);
      x.rule(0, 0, 0, 0);
      due("ruled(0)", oneSpan(x, 9).ruled(0), 640);
      due("STATES", ruledStates(x, 0, 0, 9), many("0", 9));
    });
    test(18, "r 1: RISING one less than the SPAN", () -> {
      SleepKeeper x = onePart(10, 0, 0, 0);
      x.rise(0, 500, 600, 700, 9, 9, 9);
      x.rule(0, 0, 0, 0);
      due("ruled(0)", oneSpan(x, 10).ruled(0), 630 + 700);
      due("STATES", ruledStates(x, 0, 0, 10), "3" + many("0", 9));
    });
    test(18, "r len: RISING 0, in its STATE to the end of the SPAN", () -> {
      SleepKeeper x = onePart(10, 6, 3, 1);
      x.rise(0, 5, 6, 7, 0, 0, 0);
      x.rule(0, 0, 0, 0);
      due("ruled(0)", oneSpan(x, 10).ruled(0), 10 + 7 + 540);
      due("STATES", ruledStates(x, 0, 0, 11), many("3", 10) + "0");
    });
    test(18, "thresholds alike leave a STATE out, its RISING and COST too", () -> {
      SleepKeeper x = oneSpan(apart(), 7);
      x.rule(0, 2, 2, 6);
      // SLEEP from 2 on: r 5
      due("no DOZE", x.ruled(0), 20 + 3 * 3 + 20 + 200 + 570);
      x.rule(0, 2, 4, 4);
      // OFF from 4 on would need r 5 and 3: r 4 behind DOZE
      due("no SLEEP", x.ruled(0), 20 + 2 * 6 + 30 + 100 + 570);
      x.rule(0, 3, 3, 3);
      // r 4 behind one TICK of OFF
      due("neither", x.ruled(0), 30 + 1 + 30 + 300 + 570);
      x.rule(0, 4, 4, 4);
      // OFF would need r 5 and 3, so AWAKE up to 4, and AWAKE from there on
      due("none of them", x.ruled(0), 640);
    });
    test(18, "thresholds beyond the SPAN are not reached", () -> {
      SleepKeeper x = oneSpan(apart(), 7);
      x.rule(0, 0, 7, 64);
      due("DOZE alone", x.ruled(0), 6 * 6 + 10 + 100 + 570);
      x.rule(0, 0, 64, 64);
      due("DOZE alone", x.ruled(0), 6 * 6 + 10 + 100 + 570);
    });
  }

  // ---- promises 19 and 20

  private static void state() {
    test(19, "no such PART", () -> {
      SleepKeeper x = ofParts(5);
      due("state(4, 0)", x.state(4, 0), 3);
      due("state(5, 0) of 0 .. 4", x.state(5, 0), NONE);
      for (int p : NEVER) {
        due("state(" + p + ", 0)", x.state(p, 0), NONE);
      }
      due("state(6, 0) of six", full().state(6, 0), NONE);
    });
    test(19, "TICKS are 0 .. 63", () -> {
      SleepKeeper x = ofParts(1);
      due("state(0, 0)", x.state(0, 0), 3);
      due("state(0, 63)", x.state(0, 63), 3);
      due("state(0, 65)", x.state(0, 65), NONE);
      for (int tick : NEVER) {
        due("state(0, " + tick + ")", x.state(0, tick), NONE);
      }
    });
    test(19, "RISING: 0, from the first RISING TICK on, to the end of the SPAN", () -> {
      SleepKeeper x = oneSpan(ofParts(1), 20);
      x.rise(0, 0, 0, 0, 4, 4, 4);
      due("STATES", states(x, 0, 0, 21), many("3", 16) + "00000");
    });
    test(19, "with RISING 0 in its STATE to the last TICK of the SPAN", () -> {
      SleepKeeper x = oneSpan(ofParts(1), 20);
      due("STATES", states(x, 0, 0, 21), many("3", 20) + "0");
    });
    test(19, "at the end of all TICKS in its STATE to TICK 63, whatever RISING is", () -> {
      SleepKeeper x = ofParts(1);
      x.rise(0, 0, 0, 0, 9, 9, 9);
      x.hold(0, 0, 0, 60);
      due("STATES", states(x, 0, 59, 64), "03333");
    });
    test(19, "always WANTED: AWAKE all along", () -> {
      SleepKeeper x = ofParts(1);
      x.hold(0, 0, 0, 64);
      due("STATES", states(x, 0, 0, 64), many("0", 64));
    });
  }

  private static void ruledState() {
    test(20, "no such PART", () -> {
      SleepKeeper x = ofParts(5);
      due("ruledState(4, 0)", x.ruledState(4, 0), 0);
      due("ruledState(5, 0) of 0 .. 4", x.ruledState(5, 0), NONE);
      for (int p : NEVER) {
        due("ruledState(" + p + ", 0)", x.ruledState(p, 0), NONE);
      }
      due("ruledState(6, 0) of six", full().ruledState(6, 0), NONE);
    });
    test(20, "TICKS are 0 .. 63", () -> {
      SleepKeeper x = ofParts(1);
      x.rule(0, 0, 0, 0);
      due("ruledState(0, 0)", x.ruledState(0, 0), 3);
      due("ruledState(0, 63)", x.ruledState(0, 63), 3);
      due("ruledState(0, 65)", x.ruledState(0, 65), NONE);
      for (int tick : NEVER) {
        due("ruledState(0, " + tick + ")", x.ruledState(0, tick), NONE);
      }
    });
    test(20, "threshold 63 is the last TICK of a SPAN of 64, 64 is none", () -> {
      SleepKeeper x = ofParts(1);
      x.rule(0, 63, 64, 64);
      due("STATES", ruledStates(x, 0, 0, 64), many("0", 63) + "1");
      x.rule(0, 63, 63, 63);
      due("STATES", ruledStates(x, 0, 0, 64), many("0", 63) + "3");
      x.rule(0, 64, 64, 64);
      due("STATES", ruledStates(x, 0, 0, 64), many("0", 64));
    });
    test(20, "at the end of all TICKS in its STATE to TICK 63, whatever RISING is", () -> {
      SleepKeeper x = ofParts(1);
      x.rise(0, 0, 0, 0, 9, 9, 9);
      x.rule(0, 0, 1, 2);
      x.hold(0, 0, 0, 60);
      due("STATES", ruledStates(x, 0, 59, 64), "01233");
    });
    test(20, "always WANTED: AWAKE all along", () -> {
      SleepKeeper x = ofParts(1);
      x.rule(0, 0, 0, 0);
      x.hold(0, 0, 0, 64);
      due("STATES", ruledStates(x, 0, 0, 64), many("0", 64));
    });
  }

  // ---- promises 21 and 22

  private static void all() {
    test(21, "no PARTS: 0", () -> due("all()", new SleepKeeper().all(), 0));
    test(21, "one PART: its own", () -> {
      SleepKeeper x = oneSpan(apart(), 20);
      due("all()", x.all(), x.drain(0));
    });
    test(21, "the most: six PARTS, always WANTED", () -> {
      SleepKeeper x = new SleepKeeper();
      for (int p = 0; p < 6; p++) {
        x.part(99, 0, 0, 0);
        x.hold(0, p, 0, 64);
      }
      due("all()", x.all(), 6 * 6336);
    });
    test(21, "in the PLAN: RULES play no part", () -> {
      SleepKeeper x = ofParts(6);
      due("all()", x.all(), 6 * 64);
      x.rule(3, 0, 0, 0);
      due("all()", x.all(), 6 * 64);
    });
  }

  private static void without() {
    test(22, "NONE - 100000 if there is none such", () -> {
      SleepKeeper x = ofParts(1);
      due("without(0) of none", x.without(0), -100001);
      x.timer(0, 0, 5, 5);
      due("a TIMER is no HOLD", x.without(0), -100001);
      x.hold(0, 0, 5, 6);
      due("without(0) of one", x.without(0), 0);
      due("without(1) of one", x.without(1), -100001);
      for (int i : NEVER) {
        due("without(" + i + ")", x.without(i), -100001);
      }
      SleepKeeper most = full();
      due("without(20) of 20", most.without(20), -100001);
    });
    test(22, "the first and the last of 20", () -> {
      SleepKeeper x = onePart(10, 1, 1, 1);
      for (int i = 0; i < 20; i++) {
        x.hold(0, 0, 2 * i, 2 * i + 1);
      }
      due("without(0)", x.without(0), 9);
      due("without(19)", x.without(19), 9);
    });
    test(22, "a HOLD without TICKS: 0", () -> {
      SleepKeeper x = ofParts(1);
      x.hold(0, 0, 5, 9);
      x.back(0, 5);
      due("without(0)", x.without(0), 0);
    });
    test(22, "another HOLD or TIMER wants the same: 0", () -> {
      SleepKeeper x = ofParts(1);
      x.hold(0, 0, 5, 6);
      x.hold(0, 0, 5, 6);
      x.hold(0, 0, 20, 21);
      x.timer(0, 0, 20, 20);
      due("without(0)", x.without(0), 0);
      due("without(1)", x.without(1), 0);
      due("without(2)", x.without(2), 0);
    });
    test(22, "a PART that NEEDS it wants the same: 0, of that one both", () -> {
      SleepKeeper x = ofParts(2);
      x.need(0, 1, true);
      x.hold(0, 0, 5, 6);
      x.hold(0, 1, 5, 6);
      due("of the one that is NEEDED", x.without(1), 0);
      due("of the one that NEEDS it: itself alone, the other is held", x.without(0), 9);
      x.back(1, 5);
      due("then of both", x.without(0), 18);
    });
    test(22, "the only one, of all TICKS", () -> {
      SleepKeeper x = onePart(99, 0, 0, 0);
      x.hold(0, 0, 0, 64);
      due("without(0)", x.without(0), 6336);
    });
    test(22, "it is there as it was", () -> {
      SleepKeeper x = ofParts(2);
      x.need(0, 1, true);
      x.hold(3, 0, 5, 6);
      x.without(0);
      due("when(0)", x.when(0), 1L << 5);
      due("when(1)", x.when(1), 1L << 5);
      due("look(1)", x.look(1), 1);
      due("blame(3)", x.blame(3), 840 * 20);
    });
  }

  // ---- promise 23

  private static void blame() {
    test(23, "PROGRAMS are 0 .. 7, 8 is nobody, 9 none such", () -> {
      SleepKeeper x = onePart(10, 1, 1, 1);
      x.hold(0, 0, 0, 1);
      x.hold(7, 0, 1, 3);
      due("blame(0)", x.blame(0), 8400);
      due("blame(7)", x.blame(7), 16800);
      due("blame(8)", x.blame(8), 840 * 61);
      due("blame(9)", x.blame(9), NONE);
      for (int program : NEVER) {
        due("blame(" + program + ")", x.blame(program), NONE);
      }
    });
    test(23, "nobody wants anything: all is nobody's", () -> {
      SleepKeeper x = ofParts(6);
      for (int program = 0; program < 8; program++) {
        due("blame(" + program + ")", x.blame(program), 0);
      }
      due("blame(8)", x.blame(8), 840 * 6 * 64);
    });
    test(23, "always WANTED: nothing is nobody's", () -> {
      SleepKeeper x = ofParts(1);
      x.hold(4, 0, 0, 64);
      due("blame(8)", x.blame(8), 0);
      due("blame(4)", x.blame(4), 840 * 640);
    });
    for (int n = 1; n <= 8; n++) {
      int programs = n;
      test(23, "parted evenly among " + programs, () -> {
        SleepKeeper x = onePart(99, 0, 0, 0);
        for (int program = 0; program < programs; program++) {
          x.hold(program, 0, 63, 64);
        }
        for (int program = 0; program < 8; program++) {
          due("blame(" + program + ")", x.blame(program), program < programs ? 840 / programs * 99 : 0);
        }
      });
    }
    test(23, "a PROGRAM that wants it twice is one PROGRAM", () -> {
      SleepKeeper x = onePart(10, 0, 0, 0);
      x.hold(0, 0, 5, 6);
      x.hold(0, 0, 5, 6);
      x.timer(0, 0, 5, 5);
      x.hold(1, 0, 5, 6);
      due("blame(0)", x.blame(0), 4200);
      due("blame(1)", x.blame(1), 4200);
    });
    test(23, "a PROGRAM that wants it itself and over others is one PROGRAM", () -> {
      SleepKeeper x = new SleepKeeper();
      x.part(10, 0, 0, 0);
      x.part(7, 0, 0, 0);
      x.need(0, 1, true);
      x.hold(0, 0, 5, 6);
      x.hold(0, 1, 5, 6);
      x.hold(1, 1, 5, 6);
      due("blame(0)", x.blame(0), 8400 + 2940);
      due("blame(1)", x.blame(1), 2940);
    });
    test(23, "PROGRAMS 0 .. 7, each over NEEDS", () -> {
      SleepKeeper x = new SleepKeeper();
      x.part(10, 0, 0, 0);
      x.part(7, 0, 0, 0);
      x.need(0, 1, true);
      for (int program = 0; program < 8; program++) {
        x.hold(program, 0, 2 * program, 2 * program + 1);
      }
      due("when(1)", x.when(1), 0x5555L);
      for (int program = 0; program < 8; program++) {
        due("blame(" + program + ")", x.blame(program), 840 * 17);
      }
    });
    test(23, "over a chain of all six", () -> {
      SleepKeeper x = new SleepKeeper();
      for (int p = 0; p < 6; p++) {
        x.part(p + 1, 0, 0, 0);
      }
      for (int p = 5; p > 0; p--) {
        x.need(p - 1, p, true);
      }
      x.hold(2, 0, 0, 1);
      x.timer(3, 5, 0, 0);
      due("blame(2)", x.blame(2), 840 * 15 + 420 * 6);
      due("blame(3)", x.blame(3), 420 * 6);
    });
    test(23, "a PROGRAM counts at those TICKS alone at which it wants it", () -> {
      SleepKeeper x = onePart(10, 0, 0, 0);
      x.hold(0, 0, 5, 8);
      x.hold(1, 0, 7, 10);
      due("blame(0)", x.blame(0), 2 * 8400 + 4200);
      due("blame(1)", x.blame(1), 2 * 8400 + 4200);
    });
    test(23, "what it drains in SPANS, RISING and COSTS too, is nobody's", () -> {
      SleepKeeper x = onePart(10, 10, 10, 0);
      x.rise(0, 50, 50, 50, 3, 3, 3);
      x.hold(0, 0, 20, 64);
      due("blame(8)", x.blame(8), 840 * (30 + 50));
      due("blame(0)", x.blame(0), 840 * 440);
    });
    test(23, "all of it together is all()", () -> {
      SleepKeeper x = full();
      x.need(0, 1, true);
      x.need(1, 2, true);
      x.rise(2, 3, 4, 5, 1, 2, 3);
      int sum = 0;
      for (int program = 0; program <= 8; program++) {
        sum += x.blame(program);
      }
      due("sum", sum, 840L * x.all());
    });
    test(23, "the most: 6 PARTS at 64 TICKS with DRAIN 99", () -> {
      SleepKeeper x = new SleepKeeper();
      for (int p = 0; p < 6; p++) {
        x.part(99, 99, 99, 99);
      }
      due("nobody's", x.blame(8), 31933440);
      for (int p = 0; p < 6; p++) {
        x.hold(7, p, 0, 64);
      }
      due("blame(7)", x.blame(7), 31933440);
    });
  }

  // ---- promise 24

  private static String orders(SleepKeeper x, int tick) {
    StringBuilder text = new StringBuilder();
    int i = 0;
    while (i < 7 && x.order(tick, i) != NONE) {
      text.append(x.order(tick, i));
      i++;
    }
    for (int behind = i; behind < 8; behind++) {
      due("order(" + tick + ", " + behind + ") behind the last", x.order(tick, behind), NONE);
    }
    return text.toString();
  }

  private static void order() {
    test(24, "none gets up", () -> {
      SleepKeeper x = ofParts(6);
      due("at 0", orders(x, 0), "");
      due("at 63", orders(x, 63), "");
    });
    test(24, "TICKS are 0 .. 63", () -> {
      SleepKeeper x = ofParts(2);
      x.hold(0, 0, 0, 1);
      x.hold(0, 1, 63, 64);
      due("at 0", orders(x, 0), "0");
      due("at 63", orders(x, 63), "1");
      due("at 65", x.order(65, 0), NONE);
      for (int tick : NEVER) {
        due("order(" + tick + ", 0)", x.order(tick, 0), NONE);
      }
    });
    test(24, "no such place", () -> {
      SleepKeeper x = ofParts(6);
      for (int p = 0; p < 6; p++) {
        x.hold(0, p, 5, 6);
      }
      due("all six", orders(x, 5), "012345");
      due("order(5, 6)", x.order(5, 6), NONE);
      for (int i : NEVER) {
        due("order(5, " + i + ")", x.order(5, i), NONE);
      }
    });
    test(24, "at TICK 0: all that are WANTED, also if they are at TICK 63", () -> {
      SleepKeeper x = ofParts(3);
      x.hold(0, 0, 0, 64);
      x.hold(0, 1, 0, 1);
      x.hold(0, 1, 63, 64);
      x.hold(0, 2, 1, 2);
      due("at 0", orders(x, 0), "01");
      due("at 1", orders(x, 1), "2");
      due("at 63", orders(x, 63), "1");
    });
    test(24, "WANTED at the TICK ahead: not among them, whoever wanted it", () -> {
      SleepKeeper x = ofParts(1);
      x.hold(0, 0, 5, 6);
      x.hold(1, 0, 6, 7);
      x.timer(2, 0, 7, 7);
      due("at 5", orders(x, 5), "0");
      due("at 6", orders(x, 6), "");
      due("at 7", orders(x, 7), "");
    });
    test(24, "a TICK between: it gets up again", () -> {
      SleepKeeper x = ofParts(1);
      x.hold(0, 0, 5, 6);
      x.hold(0, 0, 7, 8);
      due("at 6", orders(x, 6), "");
      due("at 7", orders(x, 7), "0");
    });
    test(24, "the least that NEEDS none of those left: a chain of six, both ways", () -> {
      SleepKeeper up = ofParts(6);
      SleepKeeper down = ofParts(6);
      for (int p = 0; p < 5; p++) {
        up.need(p, p + 1, true);
        down.need(p + 1, p, true);
      }
      up.hold(0, 0, 0, 1);
      down.hold(0, 5, 0, 1);
      due("up", orders(up, 0), "543210");
      due("down", orders(down, 0), "012345");
    });
    test(24, "always the least: one that is free again goes ahead of greater ones", () -> {
      SleepKeeper x = ofParts(6);
      x.need(0, 3, true);
      x.need(1, 5, true);
      for (int p = 0; p < 6; p++) {
        x.hold(0, p, 8, 9);
      }
      due("at 8", orders(x, 8), "230451");
    });
    test(24, "one that is NEEDED and up already holds nobody back", () -> {
      SleepKeeper x = ofParts(3);
      x.need(0, 2, true);
      x.hold(0, 2, 4, 6);
      x.hold(0, 0, 5, 6);
      x.hold(0, 1, 5, 6);
      due("at 5", orders(x, 5), "01");
      x.back(0, 5);
      due("at 5, still up by its own HOLD at 4", orders(x, 5), "01");
      x.back(0, 4);
      due("at 5, now it gets up, too", orders(x, 5), "120");
    });
  }

  // ---- promise 25

  /** The thresholds of PART 0: with no HOLD there is one SPAN of 64 at the end of all TICKS, which shows them. */
  private static String learned(SleepKeeper x) {
    for (int i = 0; i < x.look(1); i++) {
      x.back(i, x.held(i, 2));
    }
    String states = ruledStates(x, 0, 0, 64);
    int[] counts = new int[4];
    for (int tick = 0; tick < 64; tick++) {
      counts[states.charAt(tick) - '0']++;
    }
    return counts[0] + " " + (counts[0] + counts[1]) + " " + (counts[0] + counts[1] + counts[2]);
  }

  private static void learn() {
    test(25, "no such PART", () -> {
      SleepKeeper x = ofParts(5);
      due("learn(4)", x.learn(4), 64);
      due("learn(5) of 0 .. 4", x.learn(5), NONE);
      for (int p : NEVER) {
        due("learn(" + p + ")", x.learn(p), NONE);
      }
      due("learn(6) of six", full().learn(6), NONE);
    });
    test(25, "no SPANS: all RULES are even, the first is 0, 0, 0", () -> {
      SleepKeeper x = onePart(40, 30, 20, 10);
      x.hold(0, 0, 0, 64);
      due("learn(0)", x.learn(0), 2560);
      due("thresholds", learned(x), "0 0 0");
    });
    test(25, "one SPAN of 64: OFF at once", () -> {
      SleepKeeper x = onePart(40, 30, 20, 10);
      x.rise(0, 999, 999, 999, 9, 9, 9);
      due("learn(0)", x.learn(0), 640);
      due("thresholds", learned(x), "0 0 0");
    });
    test(25, "all DRAINS even and no COSTS: the first is 0, 0, 0", () -> {
      SleepKeeper x = onePart(5, 5, 5, 5);
      x.hold(0, 0, 20, 30);
      due("learn(0)", x.learn(0), 320);
      due("thresholds", learned(x), "0 0 0");
    });
    test(25, "RISING above every SPAN: no RULE matters, the first is 0, 0, 0", () -> {
      SleepKeeper x = onePart(9, 1, 1, 1);
      x.rise(0, 1, 1, 1, 9, 9, 9);
      x.hold(0, 0, 9, 64);
      due("learn(0)", x.learn(0), 576);
      due("thresholds", learned(x), "0 0 0");
    });
    test(25, "every STATE dearer than AWAKE in a SPAN of 63: thresholds 63", () -> {
      SleepKeeper x = onePart(10, 9, 9, 9);
      x.rise(0, 999, 999, 999, 0, 0, 0);
      x.hold(0, 0, 63, 64);
      due("learn(0)", x.learn(0), 640);
      due("thresholds", learned(x), "63 63 63");
    });
    test(25, "a SPAN of one TICK, dearer: thresholds 1", () -> {
      SleepKeeper x = onePart(10, 9, 9, 9);
      x.rise(0, 2, 2, 2, 0, 0, 0);
      x.hold(0, 0, 1, 64);
      due("learn(0)", x.learn(0), 640);
      due("thresholds", learned(x), "1 1 1");
    });
    test(25, "a SPAN of one TICK, in which DOZE alone does not RISE too late: 0, 1, 1", () -> {
      SleepKeeper x = onePart(5, 3, 1, 0);
      x.rise(0, 0, 1, 1, 0, 1, 1);
      x.hold(0, 0, 1, 64);
      due("learn(0)", x.learn(0), 3 + 315);
      due("thresholds", learned(x), "0 1 1");
    });
    test(25, "of several the first one: as much AWAKE or not, not", () -> {
      SleepKeeper x = onePart(10, 9, 9, 9);
      x.rise(0, 1, 1, 1, 0, 0, 0);
      x.hold(0, 0, 1, 64);
      due("learn(0)", x.learn(0), 640);
      due("thresholds", learned(x), "0 0 0");
    });
    test(25, "of several the first one by its second number: SLEEP as good as DOZE", () -> {
      SleepKeeper x = onePart(10, 4, 4, 4);
      x.rise(0, 0, 0, 90, 0, 0, 0);
      x.hold(0, 0, 20, 64);
      // SLEEP or DOZE: 80; OFF must not be reached within the 20
      due("learn(0)", x.learn(0), 80 + 440);
      due("thresholds", learned(x), "0 0 20");
    });
    test(25, "the second number: SLEEP dearer than DOZE is not reached", () -> {
      SleepKeeper x = onePart(10, 4, 4, 4);
      x.rise(0, 0, 90, 90, 0, 0, 0);
      x.hold(0, 0, 20, 64);
      due("learn(0)", x.learn(0), 80 + 440);
      due("thresholds", learned(x), "0 20 20");
    });
    test(25, "a STATE that would RISE too late does not come, but ends the one ahead of it", () -> {
      SleepKeeper x = onePart(10, 4, 4, 4);
      x.rise(0, 0, 90, 90, 0, 3, 3);
      x.hold(0, 0, 20, 64);
      // with SLEEP from 17, 18 or 19 on it would RISE there out of DOZE, and be AWAKE behind
      due("learn(0)", x.learn(0), 80 + 440);
      due("thresholds", learned(x), "0 20 20");
    });
    test(25, "of several the first one: by its first number, whatever the second is", () -> {
      SleepKeeper x = onePart(4, 2, 2, 2);
      x.rise(0, 4, 8, 9, 0, 1, 1);
      x.hold(0, 0, 2, 64);
      // 0, 2, 2 is DOZE: 4 and COST 4; 1, 1, 1 is AWAKE, because OFF from 1 on would RISE too late: 8
      due("learn(0)", x.learn(0), 256);
      due("thresholds", learned(x), "0 2 2");
    });
    test(25, "of several the first one: by its third number, the same as the second", () -> {
      SleepKeeper x = onePart(10, 0, 0, 0);
      x.rise(0, 15, 15, 15, 0, 0, 0);
      for (int i = 0; i < 3; i++) {
        x.hold(0, 0, 2 * i + 1, 2 * i + 2);
      }
      x.hold(0, 0, 26, 64);
      // 1, 1, 1 and 20 TICKS: at once 4 * 15; behind one TICK 3 * 10 + 10 + 15
      due("learn(0)", x.learn(0), 55 + 410);
      due("thresholds", learned(x), "1 1 1");
    });
    test(25, "the third number just behind the second", () -> {
      SleepKeeper x = onePart(10, 5, 5, 0);
      x.rise(0, 0, 0, 8, 0, 0, 0);
      x.hold(0, 0, 1, 2);
      x.hold(0, 0, 3, 4);
      x.hold(0, 0, 24, 64);
      // 1, 1 and 20 TICKS: OFF at once 3 * 8; behind a TICK of SLEEP 5 + 5 + 5 + 8
      due("learn(0)", x.learn(0), 23 + 420);
      due("thresholds", learned(x), "0 0 1");
    });
    test(25, "of several the first one: thresholds go no farther than the latest place", () -> {
      int[][] costs = {{90, 90, 90}, {0, 90, 90}, {0, 0, 90}};
      String[] want = {"17 17 17", "0 17 17", "0 0 17"};
      for (int k = 0; k < 3; k++) {
        SleepKeeper x = onePart(10, 9, 9, 9);
        x.rise(0, costs[k][0], costs[k][1], costs[k][2], 3, 3, 3);
        x.hold(0, 0, 20, 64);
        // RISING 3 of 20: from 17 on it is AWAKE in any case
        due("learn(0)", x.learn(0), k == 0 ? 640 : 17 * 9 + 30 + 440);
        due("thresholds", learned(x), want[k]);
      }
    });
    test(25, "two SPANS: SLEEP through the short one, OFF behind it", () -> {
      SleepKeeper x = onePart(10, 10, 10, 0);
      x.rise(0, 0, 0, 100, 0, 0, 0);
      x.hold(0, 0, 5, 6);
      x.hold(0, 0, 46, 64);
      // 5 and 40 TICKS; OFF at once: 100 + 100; behind 5 TICKS of SLEEP: 50 + 50 + 100
      due("even: at once", x.learn(0), 200 + 190);
      due("thresholds", learned(x), "0 0 0");
      SleepKeeper y = onePart(10, 10, 10, 0);
      y.rise(0, 0, 0, 101, 0, 0, 0);
      y.hold(0, 0, 5, 6);
      y.hold(0, 0, 46, 64);
      due("one dearer: behind it", y.learn(0), 50 + 50 + 101 + 190);
      due("thresholds", learned(y), "0 0 5");
    });
    test(25, "it gets that, other PARTS keep theirs", () -> {
      SleepKeeper x = ofParts(2);
      due("learn(0)", x.learn(0), 64);
      due("ruled(0)", x.ruled(0), 64);
      due("ruled(1)", x.ruled(1), 640);
      due("learn again", x.learn(0), 64);
    });
    test(25, "what was the RULE ahead does not matter", () -> {
      SleepKeeper x = onePart(40, 30, 20, 10);
      x.hold(0, 0, 0, 64);
      x.rule(0, 1, 2, 3);
      x.learn(0);
      due("thresholds", learned(x), "0 0 0");
    });
    test(25, "a RULE that was learned stays when HOLDS come", () -> {
      SleepKeeper x = apart();
      x.learn(0);
      x.hold(0, 0, 20, 64);
      due("OFF at once, 3 RISING, COST 300", x.ruled(0), 17 + 30 + 300 + 440);
    });
  }
}
