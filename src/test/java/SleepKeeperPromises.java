/** For each promise of the document: ordinary inputs, its edges and wrong inputs, with answers worked out by hand. */
public final class SleepKeeperPromises {
  private static final int NONE = SleepKeeper.NONE;
  private static final int LEAST = Integer.MIN_VALUE;
  private static final int MOST = Integer.MAX_VALUE;

  private static int wrong = 0;
  private static int asked = 0;
  private static int promise = 0;

  private static void due(String call, long got, long want) {
    asked++;
    if (got != want) {
      wrong++;
      System.out.println("promise " + promise + ": " + call + " answered " + got + ", due is " + want);
    }
  }

  private static void due(String call, boolean got, boolean want) {
    due(call, got ? 1L : 0L, want ? 1L : 0L);
  }

  /** A keeper with a PART 0 of DRAINS 10, 4, 1, 0, COSTS 2, 5, 20 and RISING ticks 0, 1, 3. */
  private static SleepKeeper one() {
    SleepKeeper x = new SleepKeeper();
    x.part(10, 4, 1, 0);
    x.rise(0, 2, 5, 20, 0, 1, 3);
    return x;
  }

  private static SleepKeeper ofParts(int n) {
    SleepKeeper x = new SleepKeeper();
    for (int p = 0; p < n; p++) {
      x.part(10, 5, 2, 1);
    }
    return x;
  }

  public static void main(String[] args) {
    newObject();
    part();
    rise();
    need();
    hold();
    back();
    timer();
    rule();
    look();
    held();
    waking();
    fires();
    wanted();
    when();
    spans();
    span();
    drain();
    ruled();
    state();
    ruledState();
    all();
    without();
    blame();
    order();
    learn();
    noneThrows();
    System.out.println(asked + " answers looked at, " + wrong + " wrong");
    if (wrong != 0) {
      System.exit(1);
    }
  }

  private static void newObject() {
    promise = 1;
    SleepKeeper x = new SleepKeeper();
    for (int what = 0; what < 4; what++) {
      due("look(" + what + ")", x.look(what), 0);
    }
    due("all()", x.all(), 0);
    due("wanted(0, 0)", x.wanted(0, 0), NONE);
    due("hold(0, 0, 0, 1)", x.hold(0, 0, 0, 1), NONE);
    due("timer(0, 0, 0, 1)", x.timer(0, 0, 0, 1), NONE);
    due("blame(0)", x.blame(0), 0);
    due("blame(8)", x.blame(8), 0);
    due("order(0, 0)", x.order(0, 0), NONE);
    SleepKeeper other = ofParts(2);
    due("two objects share nothing", new SleepKeeper().look(0) * 10 + other.look(0), 2);
  }

  private static void part() {
    promise = 2;
    SleepKeeper x = new SleepKeeper();
    due("above the STATE ahead", x.part(10, 11, 0, 0), NONE);
    due("above the STATE ahead", x.part(10, 5, 6, 0), NONE);
    due("above the STATE ahead", x.part(10, 5, 4, 5), NONE);
    due("above 99", x.part(100, 5, 4, 3), NONE);
    due("above 99", x.part(100, 100, 100, 100), NONE);
    due("below 0", x.part(3, 2, 1, -1), NONE);
    due("below 0", x.part(-1, -1, -1, -1), NONE);
    due("below 0", x.part(LEAST, LEAST, LEAST, LEAST), NONE);
    due("too much", x.part(MOST, MOST, MOST, MOST), NONE);
    due("nothing is done", x.look(0), 0);
    due("part(99, 99, 99, 99)", x.part(99, 99, 99, 99), 0);
    due("part(0, 0, 0, 0)", x.part(0, 0, 0, 0), 1);
    due("part(99, 0, 0, 0)", x.part(99, 0, 0, 0), 2);
    due("part(40, 30, 20, 10)", x.part(40, 30, 20, 10), 3);
    due("part 4", x.part(1, 1, 1, 0), 4);
    due("part 5", x.part(1, 1, 1, 0), 5);
    due("a seventh", x.part(1, 1, 1, 0), NONE);
    due("look(0)", x.look(0), 6);
    due("DRAIN of OFF to the end", x.drain(3), 640);
    due("DRAIN of AWAKE by a RULE of 64", x.ruled(3), 2560);
    x.rule(3, 0, 64, 64);
    due("DRAIN of DOZE", x.ruled(3), 1920);
    x.rule(3, 0, 0, 64);
    due("DRAIN of SLEEP", x.ruled(3), 1280);
    due("even DRAINS: the least STATE", x.state(0, 0), 0);
  }

  private static void rise() {
    promise = 3;
    SleepKeeper x = ofParts(2);
    due("no such PART", x.rise(2, 0, 0, 0, 0, 0, 0), false);
    due("no such PART", x.rise(-1, 0, 0, 0, 0, 0, 0), false);
    due("all 0", x.rise(0, 0, 0, 0, 0, 0, 0), true);
    due("the most", x.rise(0, 999, 999, 999, 9, 9, 9), true);
    due("again", x.rise(0, 3, 7, 11, 1, 2, 4), true);
    due("COST below 0", x.rise(0, -1, 7, 11, 1, 2, 4), false);
    due("COST below the one ahead", x.rise(0, 8, 7, 11, 1, 2, 4), false);
    due("COST below the one ahead", x.rise(0, 3, 7, 6, 1, 2, 4), false);
    due("COST above 999", x.rise(0, 3, 7, 1000, 1, 2, 4), false);
    due("RISING below 0", x.rise(0, 3, 7, 11, -1, 2, 4), false);
    due("RISING below the one ahead", x.rise(0, 3, 7, 11, 3, 2, 4), false);
    due("RISING below the one ahead", x.rise(0, 3, 7, 11, 1, 2, 1), false);
    due("RISING above 9", x.rise(0, 3, 7, 11, 1, 2, 10), false);
    x.hold(0, 0, 20, 64);
    due("nothing is done: in the PLAN it SLEEPS", x.drain(0), 18 * 2 + 20 + 7 + 440);
    x.rule(0, 0, 0, 0);
    due("OFF: 16 ticks, 4 RISING, COST 11", x.ruled(0), 16 + 40 + 11 + 440);
    x.rule(0, 0, 64, 64);
    due("DOZE: 19 ticks, 1 RISING, COST 3", x.ruled(0), 19 * 5 + 10 + 3 + 440);
    x.rule(0, 0, 0, 64);
    due("SLEEP: 18 ticks, 2 RISING, COST 7", x.ruled(0), 18 * 2 + 20 + 7 + 440);
    x.hold(0, 1, 20, 64);
    due("at first 0 and 0", x.drain(1), 20 * 1 + 440);
  }

  private static void need() {
    promise = 4;
    SleepKeeper x = ofParts(6);
    due("need(0, 6, true)", x.need(0, 6, true), false);
    due("need(6, 0, true)", x.need(6, 0, true), false);
    due("need(-1, 0, true)", x.need(-1, 0, true), false);
    due("need(0, -1, true)", x.need(0, -1, true), false);
    due("need(0, 32, true)", x.need(0, 32, true), false);
    due("need(0, 0, true)", x.need(0, 0, true), false);
    due("need(0, 0, false)", x.need(0, 0, false), false);
    due("it was so", x.need(0, 1, false), false);
    for (int p = 0; p < 5; p++) {
      due("a chain", x.need(p, p + 1, true), true);
    }
    due("it was so", x.need(0, 1, true), false);
    for (int p = 1; p < 6; p++) {
      due("a ring", x.need(p, 0, true), false);
    }
    due("no ring", x.need(0, 5, true), true);
    x.hold(0, 0, 3, 4);
    due("over five others", x.wanted(5, 3), 1);
    due("no more", x.need(2, 3, false), true);
    due("it was so", x.need(2, 3, false), false);
    due("ends there", x.wanted(3, 3), 0);
    due("but by its own NEED", x.wanted(5, 3), 1);
    due("the ring is open", x.need(4, 0, true), true);
    due("a NEED goes one way", x.wanted(4, 3), 0);
    due("now this would be one", x.need(0, 4, true), false);
  }

  private static void hold() {
    promise = 5;
    SleepKeeper x = ofParts(2);
    due("no such PROGRAM", x.hold(8, 0, 0, 1), NONE);
    due("no such PROGRAM", x.hold(-1, 0, 0, 1), NONE);
    due("no such PART", x.hold(0, 2, 0, 1), NONE);
    due("no such PART", x.hold(0, -1, 0, 1), NONE);
    due("from not below to", x.hold(0, 0, 1, 1), NONE);
    due("from not below to", x.hold(0, 0, 2, 1), NONE);
    due("to above 64", x.hold(0, 0, 0, 65), NONE);
    due("from below 0", x.hold(0, 0, -1, 1), NONE);
    due("from 64", x.hold(0, 0, 64, 65), NONE);
    due("none at all", x.hold(0, 0, LEAST, MOST), NONE);
    due("nothing is done", x.look(1), 0);
    due("nothing is done", x.when(0), 0);
    due("hold(7, 1, 63, 64)", x.hold(7, 1, 63, 64), 0);
    due("its TICK", x.when(1), 1L << 63);
    for (int i = 1; i < 20; i++) {
      due("hold " + i, x.hold(i % 8, 0, i, i + 2), i);
    }
    due("a 21st", x.hold(0, 1, 0, 64), NONE);
    due("nothing is done", x.look(1), 20);
    due("nothing is done", x.when(1), 1L << 63);
    due("all that were", x.when(0), (1L << 21) - 2);
  }

  private static void back() {
    promise = 6;
    SleepKeeper x = ofParts(1);
    x.hold(2, 0, 10, 20);
    x.hold(3, 0, 0, 64);
    due("none such", x.back(2, 10), false);
    due("none such", x.back(-1, 10), false);
    due("at its end", x.back(0, 20), false);
    due("ahead of it", x.back(0, 9), false);
    due("HOLD 1 at TICK 0", x.back(1, 0), true);
    due("it has no TICK", x.when(0), (1L << 20) - (1L << 10));
    due("never again", x.back(1, 0), false);
    due("not even below", x.back(1, -1), false);
    due("but it is there", x.held(1, 0), 3);
    due("its last TICK", x.back(0, 19), true);
    due("to", x.held(0, 3), 19);
    due("not WANTED there", x.wanted(0, 19), 0);
    due("WANTED ahead", x.wanted(0, 18), 1);
    due("at its own first", x.back(0, 10), true);
    due("from", x.held(0, 2), 10);
    due("to", x.held(0, 3), 10);
    due("it has no TICK any more", x.when(0), 0);
    due("nor is it within", x.back(0, 10), false);
    due("they still count", x.look(1), 2);
    due("blame", x.blame(2), 0);
    SleepKeeper full = ofParts(1);
    for (int i = 0; i < 20; i++) {
      full.hold(0, 0, i, i + 1);
    }
    full.back(5, 5);
    due("a HOLD that was given back keeps its place", full.hold(0, 0, 0, 1), NONE);
  }

  private static void timer() {
    promise = 7;
    SleepKeeper x = ofParts(2);
    due("no such PROGRAM", x.timer(8, 0, 0, 1), NONE);
    due("no such PROGRAM", x.timer(-1, 0, 0, 1), NONE);
    due("no such PART", x.timer(0, 2, 0, 1), NONE);
    due("no such PART", x.timer(0, -1, 0, 1), NONE);
    due("first above last", x.timer(0, 0, 2, 1), NONE);
    due("first below 0", x.timer(0, 0, -1, 1), NONE);
    due("last above 63", x.timer(0, 0, 0, 64), NONE);
    due("last above all", x.timer(0, 0, 0, MOST), NONE);
    due("nothing is done", x.look(2) + x.look(3), 0);
    due("the last TICK", x.timer(7, 1, 63, 63), 0);
    due("WANTED there", x.when(1), 1L << 63);
    due("the first TICK", x.timer(0, 0, 0, 0), 1);
    for (int i = 2; i < 12; i++) {
      due("timer " + i, x.timer(i % 8, i % 2, 0, 63), i);
    }
    due("a 13th", x.timer(0, 0, 5, 6), NONE);
    due("nothing is done", x.look(2), 12);
    due("nothing is done", x.look(3), 2);
  }

  private static void rule() {
    promise = 8;
    SleepKeeper x = one();
    due("at first 64, 64, 64", x.ruled(0), 640);
    due("no such PART", x.rule(1, 0, 0, 0), false);
    due("no such PART", x.rule(-1, 0, 0, 0), false);
    due("below the one ahead", x.rule(0, 1, 0, 64), false);
    due("below the one ahead", x.rule(0, 0, 2, 1), false);
    due("below 0", x.rule(0, -1, 0, 0), false);
    due("above 64", x.rule(0, 0, 0, 65), false);
    due("nothing is done", x.ruled(0), 640);
    due("0, 0, 0", x.rule(0, 0, 0, 0), true);
    due("all OFF", x.ruled(0), 0);
    due("64, 64, 64", x.rule(0, 64, 64, 64), true);
    due("all AWAKE", x.ruled(0), 640);
    due("1, 3, 7", x.rule(0, 1, 3, 7), true);
    due("1 AWAKE, 2 DOZE, 4 SLEEP", x.ruled(0), 10 + 2 * 4 + 4 * 1);
  }

  private static void look() {
    promise = 9;
    SleepKeeper x = ofParts(3);
    x.hold(0, 0, 1, 2);
    x.hold(0, 0, 1, 2);
    x.timer(0, 0, 5, 8);
    x.timer(0, 1, 7, 9);
    x.timer(0, 2, 8, 10);
    x.timer(0, 2, 9, 11);
    due("PARTS", x.look(0), 3);
    due("HOLDS", x.look(1), 2);
    due("TIMERS", x.look(2), 4);
    due("WAKINGS", x.look(3), 2);
    due("another", x.look(4), NONE);
    due("another", x.look(-1), NONE);
    due("another", x.look(LEAST), NONE);
  }

  private static void held() {
    promise = 10;
    SleepKeeper x = ofParts(2);
    x.hold(1, 0, 3, 4);
    x.hold(6, 1, 10, 64);
    int[] want = {6, 1, 10, 64};
    for (int what = 0; what < 4; what++) {
      due("held(1, " + what + ")", x.held(1, what), want[what]);
    }
    due("held(1, 4)", x.held(1, 4), NONE);
    due("held(1, -1)", x.held(1, -1), NONE);
    due("held(2, 0)", x.held(2, 0), NONE);
    due("held(-1, 0)", x.held(-1, 0), NONE);
    due("held(20, 0)", x.held(20, 0), NONE);
  }

  private static void waking() {
    promise = 11;
    SleepKeeper x = ofParts(2);
    due("none yet", x.waking(0), NONE);
    x.timer(0, 0, 40, 50);
    due("the latest that can be", x.waking(0), 50);
    x.timer(1, 1, 10, 20);
    due("rising", x.waking(0), 20);
    due("rising", x.waking(1), 50);
    x.timer(2, 1, 15, 45);
    due("has one already", x.look(3), 2);
    x.timer(3, 0, 12, 14);
    due("the window that ends first", x.waking(0), 14);
    due("the next one that has none", x.waking(1), 45);
    due("and no third", x.waking(2), NONE);
    due("waking(-1)", x.waking(-1), NONE);
    due("waking(least)", x.waking(LEAST), NONE);
    due("waking(most)", x.waking(MOST), NONE);
    SleepKeeper ends = ofParts(1);
    ends.timer(0, 0, 63, 63);
    ends.timer(0, 0, 0, 0);
    due("TICK 0", ends.waking(0), 0);
    due("TICK 63", ends.waking(1), 63);
  }

  private static void fires() {
    promise = 12;
    SleepKeeper x = ofParts(2);
    x.timer(0, 0, 3, 10);
    x.timer(1, 1, 11, 20);
    x.timer(2, 0, 5, 30);
    x.timer(3, 1, 10, 11);
    due("its own end", x.fires(0), 10);
    due("its own end", x.fires(1), 20);
    due("the least of two in its window", x.fires(2), 10);
    due("the first TICK of its window", x.fires(3), 10);
    due("none such", x.fires(4), NONE);
    due("none such", x.fires(-1), NONE);
    due("none such", x.fires(12), NONE);
    x.timer(4, 0, 8, 9);
    due("goes along with a new one", x.fires(0), 9);
    due("and this no more", x.fires(3), 11);
    x.timer(5, 0, 0, 0);
    due("TICK 0", x.fires(5), 0);
    due("WANTED there", x.wanted(0, 0), 1);
  }

  private static void wanted() {
    promise = 13;
    SleepKeeper x = ofParts(4);
    x.need(0, 1, true);
    x.need(1, 2, true);
    x.hold(0, 0, 5, 7);
    x.timer(1, 1, 20, 25);
    due("by a HOLD", x.wanted(0, 5), 1);
    due("its last", x.wanted(0, 6), 1);
    due("behind it", x.wanted(0, 7), 0);
    due("ahead of it", x.wanted(0, 4), 0);
    due("NEEDED", x.wanted(1, 6), 1);
    due("over another", x.wanted(2, 6), 1);
    due("by none", x.wanted(3, 6), 0);
    due("at its WAKING", x.wanted(1, 25), 1);
    due("not in its window alone", x.wanted(1, 24), 0);
    due("NEEDED by a TIMER's", x.wanted(2, 25), 1);
    due("not the other way", x.wanted(0, 25), 0);
    due("no such PART", x.wanted(4, 5), NONE);
    due("no such PART", x.wanted(-1, 5), NONE);
    due("no such TICK", x.wanted(0, 64), NONE);
    due("no such TICK", x.wanted(0, -1), NONE);
  }

  private static void when() {
    promise = 14;
    SleepKeeper x = ofParts(2);
    x.need(1, 0, true);
    x.hold(0, 0, 0, 2);
    x.hold(0, 1, 62, 64);
    x.timer(0, 1, 8, 10);
    due("its own and by NEED", x.when(0), 3L << 62 | 1L << 10 | 3L);
    due("its own", x.when(1), 3L << 62 | 1L << 10);
    due("no such PART", x.when(2), 0);
    due("no such PART", x.when(-1), 0);
    x.hold(0, 0, 0, 64);
    due("all", x.when(0), -1L);
  }

  private static void spans() {
    promise = 15;
    SleepKeeper x = ofParts(1);
    due("one of 64", x.spans(0), 1);
    x.hold(0, 0, 0, 5);
    due("none ahead", x.spans(0), 1);
    x.hold(0, 0, 6, 7);
    due("one of a TICK", x.spans(0), 2);
    x.hold(0, 0, 7, 9);
    due("HOLDS in a row part nothing", x.spans(0), 2);
    x.hold(0, 0, 63, 64);
    due("the end WANTED", x.spans(0), 2);
    x.hold(0, 0, 0, 64);
    due("none", x.spans(0), 0);
    due("no such PART", x.spans(1), NONE);
    due("no such PART", x.spans(-1), NONE);
    SleepKeeper most = ofParts(1);
    for (int i = 0; i < 20; i++) {
      most.hold(0, 0, 2 * i + 1, 2 * i + 2);
    }
    for (int i = 20; i < 32; i++) {
      most.timer(0, 0, 2 * i + 1, 2 * i + 1);
    }
    due("as many as there can be", most.spans(0), 32);
    due("the last of them", most.span(0, 31, 0), 62);
    due("no 33rd", most.span(0, 32, 0), NONE);
  }

  private static void dueSpan(SleepKeeper x, int i, int... want) {
    for (int what = 0; what < want.length; what++) {
      due("span(0, " + i + ", " + what + ")", x.span(0, i, what), want[what]);
    }
  }

  private static void span() {
    promise = 16;
    SleepKeeper x = one();
    x.hold(0, 0, 10, 12);
    x.hold(0, 0, 13, 14);
    x.hold(0, 0, 16, 17);
    x.hold(0, 0, 57, 58);
    // SLEEP: 9 + 10 + 5; DOZE: 40 + 2; OFF: 7 * 0 + 30 + 20
    dueSpan(x, 0, 0, 10, 2, 24, 100, 9);
    // DOZE: 4 + 2, SLEEP: 0 + 10 + 5, OFF can't be
    dueSpan(x, 1, 12, 1, 1, 6, 10, 13);
    // DOZE: 8 + 2, SLEEP: 1 + 10 + 5
    dueSpan(x, 2, 14, 2, 1, 10, 20, 16);
    // SLEEP: 39 + 10 + 5; OFF: 30 + 20
    dueSpan(x, 3, 17, 40, 3, 50, 400, 54);
    // at the end of all TICKS no COST
    dueSpan(x, 4, 58, 6, 3, 0, 60, NONE);
    due("none such", x.span(0, 5, 0), NONE);
    due("none such", x.span(0, -1, 0), NONE);
    due("no such PART", x.span(1, 0, 0), NONE);
    due("no such PART", x.span(-1, 0, 0), NONE);
    due("another what", x.span(0, 0, 6), NONE);
    due("another what", x.span(0, 0, -1), NONE);
    SleepKeeper even = new SleepKeeper();
    even.part(10, 5, 5, 0);
    even.rise(0, 20, 20, 30, 0, 0, 2);
    even.hold(0, 0, 4, 5);
    even.hold(0, 0, 9, 10);
    even.hold(0, 0, 16, 17);
    // AWAKE 40, DOZE 20 + 20, OFF 0 + 20 + 30
    dueSpan(even, 0, 0, 4, 0, 40, 40, NONE);
    // AWAKE 40 again; of several the least number
    dueSpan(even, 1, 5, 4, 0, 40, 40, NONE);
    // 6 TICKS: AWAKE 60, DOZE and SLEEP 50, OFF 50
    dueSpan(even, 2, 10, 6, 1, 50, 60, 16);
    SleepKeeper slow = new SleepKeeper();
    slow.part(10, 0, 0, 0);
    slow.rise(0, 0, 0, 0, 3, 4, 9);
    slow.hold(0, 0, 3, 4);
    slow.hold(0, 0, 6, 7);
    // RISING as long as the SPAN is no gain, but can be; even with AWAKE
    dueSpan(slow, 0, 0, 3, 0, 30, 30, NONE);
    // 2 TICKS: none but AWAKE can be
    dueSpan(slow, 1, 4, 2, 0, 20, 20, NONE);
    SleepKeeper even2 = new SleepKeeper();
    even2.part(7, 7, 3, 3);
    // at the end of all TICKS RISING plays no part
    even2.rise(0, 999, 999, 999, 9, 9, 9);
    even2.hold(0, 0, 0, 63);
    dueSpan(even2, 0, 63, 1, 2, 3, 7, NONE);
  }

  private static void drain() {
    promise = 17;
    SleepKeeper x = one();
    due("one SPAN to the end", x.drain(0), 0);
    x.hold(0, 0, 10, 12);
    due("SLEEP, 2 WANTED, OFF", x.drain(0), 24 + 20);
    x.hold(1, 0, 11, 12);
    due("WANTED twice it drains once", x.drain(0), 44);
    x.timer(0, 0, 63, 63);
    due("the end is WANTED: 51 TICKS between: OFF 30 + 20", x.drain(0), 24 + 20 + 50 + 10);
    due("no such PART", x.drain(1), NONE);
    due("no such PART", x.drain(-1), NONE);
  }

  private static void ruled() {
    promise = 18;
    SleepKeeper x = one();
    x.hold(0, 0, 10, 12);
    x.hold(0, 0, 20, 21);
    due("64, 64, 64", x.ruled(0), 640);
    x.rule(0, 2, 4, 6);
    // 2 AWAKE, 2 DOZE, 2 SLEEP, 1 OFF, 3 RISING, COST 20
    int first = 20 + 8 + 2 + 0 + 30 + 20;
    // len 8: OFF at 6 would need 7 + 3; SLEEP at 5: rises at 6, 2 AWAKE, COST 5
    int second = 20 + 8 + 2 + 20 + 5;
    due("2, 4, 6", x.ruled(0), first + second + 20 + 8 + 2 + 30);
    x.rule(0, 0, 0, 0);
    due("0, 0, 0", x.ruled(0), 50 + 50 + 30);
    due("no such PART", x.ruled(1), NONE);
    due("no such PART", x.ruled(-1), NONE);
    SleepKeeper slow = new SleepKeeper();
    slow.part(10, 0, 0, 0);
    slow.rise(0, 100, 200, 300, 5, 5, 5);
    slow.rule(0, 0, 0, 0);
    slow.hold(0, 0, 5, 6);
    due("no STATE can be: it rises at 0 out of AWAKE", slow.ruled(0), 50 + 10);
    slow.hold(0, 0, 12, 13);
    due("len 6: a TICK of OFF", slow.ruled(0), 50 + 10 + 50 + 300 + 10);
  }

  private static void state() {
    promise = 19;
    SleepKeeper x = one();
    x.hold(0, 0, 10, 12);
    x.hold(0, 0, 50, 51);
    due("SLEEP at the beginning", x.state(0, 0), 2);
    due("SLEEP", x.state(0, 8), 2);
    due("RISING", x.state(0, 9), 0);
    due("WANTED", x.state(0, 10), 0);
    due("WANTED", x.state(0, 11), 0);
    due("OFF at once", x.state(0, 12), 3);
    due("OFF", x.state(0, 46), 3);
    due("RISING", x.state(0, 47), 0);
    due("RISING", x.state(0, 49), 0);
    due("OFF to the end", x.state(0, 51), 3);
    due("OFF to the end", x.state(0, 63), 3);
    due("no such TICK", x.state(0, 64), NONE);
    due("no such TICK", x.state(0, -1), NONE);
    due("no such PART", x.state(1, 0), NONE);
    due("no such PART", x.state(-1, 0), NONE);
  }

  private static void ruledState() {
    promise = 20;
    SleepKeeper x = one();
    x.hold(0, 0, 10, 12);
    x.hold(0, 0, 20, 21);
    x.rule(0, 2, 4, 6);
    int[] want = {0, 0, 1, 1, 2, 2, 3, 0, 0, 0, 0, 0, 0, 0, 1, 1, 2, 2, 0, 0, 0, 0, 0, 1, 1, 2, 2, 3};
    for (int tick = 0; tick < 64; tick++) {
      due("ruledState(0, " + tick + ")", x.ruledState(0, tick), tick < want.length ? want[tick] : 3);
    }
    x.rule(0, 3, 3, 64);
    due("AWAKE for the first", x.ruledState(0, 2), 0);
    due("no DOZE between", x.ruledState(0, 3), 2);
    x.rule(0, 64, 64, 64);
    due("AWAKE all along", x.ruledState(0, 63), 0);
    x.rule(0, 0, 0, 0);
    due("OFF at once", x.ruledState(0, 0), 3);
    due("WANTED", x.ruledState(0, 10), 0);
    due("no such TICK", x.ruledState(0, 64), NONE);
    due("no such TICK", x.ruledState(0, -1), NONE);
    due("no such PART", x.ruledState(1, 0), NONE);
    due("no such PART", x.ruledState(-1, 0), NONE);
    SleepKeeper all = ofParts(1);
    all.rule(0, 62, 63, 64);
    due("place 61", all.ruledState(0, 61), 0);
    due("place 62", all.ruledState(0, 62), 1);
    due("place 63", all.ruledState(0, 63), 2);
  }

  private static void all() {
    promise = 21;
    SleepKeeper x = ofParts(3);
    due("OFF, all of them", x.all(), 3 * 64);
    x.need(0, 1, true);
    x.hold(0, 0, 0, 64);
    due("two AWAKE", x.all(), 640 + 640 + 64);
    due("as the sum", x.all(), x.drain(0) + x.drain(1) + x.drain(2));
    x.rule(2, 0, 0, 0);
    due("RULES play no part", x.all(), 640 + 640 + 64);
  }

  private static void without() {
    promise = 22;
    SleepKeeper x = one();
    x.part(7, 0, 0, 0);
    x.need(0, 1, true);
    x.hold(0, 0, 10, 12);
    x.hold(1, 0, 20, 21);
    x.hold(2, 0, 20, 21);
    due("with all", x.all(), 76 + 21);
    // without it PART 0 has 20 TICKS of SLEEP (19 + 15 = 34; OFF 50), so 24 + 20 + 22 less 34
    due("of both PARTS", x.without(0), 24 + 20 + 22 - 34 + 14);
    due("another wants the same", x.without(1), 0);
    due("another wants the same", x.without(2), 0);
    due("nothing has changed", x.all(), 76 + 21);
    due("nothing has changed", x.when(1), 1L << 20 | 3L << 10);
    due("none such", x.without(3), -100001);
    due("none such", x.without(-1), -100001);
    due("none such", x.without(20), -100001);
    x.back(0, 10);
    due("a HOLD without TICKS", x.without(0), 0);
    due("is none less", x.all(), 34 + 10 + 7);
    due("now the only one", x.back(2, 20) ? x.without(1) : 5, 34 + 10 + 7);
  }

  private static void blame() {
    promise = 23;
    SleepKeeper x = new SleepKeeper();
    x.part(9, 0, 0, 0);
    x.part(5, 5, 5, 2);
    x.need(0, 1, true);
    x.hold(0, 0, 0, 2);
    x.hold(0, 0, 0, 1);
    x.hold(1, 1, 1, 3);
    x.timer(2, 0, 1, 1);
    // PART 0: TICK 0 by 0, TICK 1 by 0 and 2. PART 1: TICK 0 by 0, TICK 1 by 0, 1, 2, TICK 2 by 1.
    due("blame(0)", x.blame(0), 840 * 9 + 420 * 9 + 840 * 5 + 280 * 5);
    due("blame(1)", x.blame(1), 280 * 5 + 840 * 5);
    due("blame(2)", x.blame(2), 420 * 9 + 280 * 5);
    due("blame(3)", x.blame(3), 0);
    due("nobody's", x.blame(8), 840 * 61 * 2);
    due("none such", x.blame(9), NONE);
    due("none such", x.blame(-1), NONE);
    SleepKeeper eight = ofParts(1);
    for (int program = 0; program < 8; program++) {
      eight.hold(program, 0, 0, program + 1);
    }
    int[] shares = {105, 120, 140, 168, 210, 280, 420, 840};
    int sum = 0;
    for (int program = 0; program < 8; program++) {
      sum += shares[program] * 10;
      due("blame(" + program + ") of eight", eight.blame(program), sum);
    }
    SleepKeeper cost = one();
    cost.hold(3, 0, 10, 64);
    due("COST and RISING are nobody's", cost.blame(8), 840 * 24);
    due("the rest is its", cost.blame(3), 840 * 540);
    SleepKeeper most = new SleepKeeper();
    for (int p = 0; p < 6; p++) {
      most.part(99, 99, 99, 99);
      most.hold(7, p, 0, 64);
    }
    due("the most there can be", most.blame(7), 840 * 6 * 64 * 99);
  }

  private static void order() {
    promise = 24;
    SleepKeeper x = ofParts(6);
    x.need(0, 3, true);
    x.need(3, 5, true);
    x.need(1, 5, true);
    x.hold(0, 0, 0, 2);
    x.hold(0, 4, 0, 2);
    int[] first = {4, 5, 3, 0};
    for (int i = 0; i < 6; i++) {
      due("order(0, " + i + ")", x.order(0, i), i < 4 ? first[i] : NONE);
    }
    due("all were", x.order(1, 0), NONE);
    x.hold(0, 5, 9, 10);
    x.hold(0, 0, 10, 11);
    x.hold(0, 1, 10, 11);
    x.hold(0, 2, 10, 11);
    int[] second = {1, 2, 3, 0, 5};
    for (int i = 0; i < 4; i++) {
      due("order(10, " + i + "): 5 is up already", x.order(10, i), second[i]);
    }
    due("no fifth", x.order(10, 4), NONE);
    due("none left over", x.order(11, 0), NONE);
    x.hold(0, 4, 63, 64);
    due("the last TICK is not the one ahead of the first", x.order(0, 0), 4);
    due("no such TICK", x.order(64, 0), NONE);
    due("no such TICK", x.order(-1, 0), NONE);
    due("none such", x.order(0, -1), NONE);
    due("none such", x.order(0, MOST), NONE);
    SleepKeeper chain = ofParts(6);
    for (int p = 0; p < 5; p++) {
      chain.need(p, p + 1, true);
    }
    chain.hold(0, 0, 63, 64);
    for (int i = 0; i < 6; i++) {
      due("a chain: order(63, " + i + ")", chain.order(63, i), 5 - i);
    }
  }

  private static void learn() {
    promise = 25;
    SleepKeeper x = one();
    due("no such PART", x.learn(1), NONE);
    due("no such PART", x.learn(-1), NONE);
    due("one SPAN to the end: 0, 0, 0", x.learn(0), 0);
    due("it gets that", x.ruledState(0, 0), 3);
    x.hold(0, 0, 10, 12);
    x.hold(0, 0, 20, 21);
    // SLEEP at once, OFF from 9 on: 24 + 22 + 30 and the last SPAN 9 of SLEEP
    due("learn", x.learn(0), 85);
    due("ruled", x.ruled(0), 85);
    due("place 0", x.ruledState(0, 21), 2);
    x.back(0, 10);
    x.back(1, 20);
    for (int tick = 0; tick < 64; tick++) {
      due("0, 0, 9: ruledState(0, " + tick + ")", x.ruledState(0, tick), tick < 9 ? 2 : 3);
    }
    SleepKeeper all = ofParts(1);
    all.hold(0, 0, 0, 64);
    due("no SPANS", all.learn(0), 640);
    all.back(0, 0);
    due("then 0, 0, 0", all.ruledState(0, 0), 3);
    SleepKeeper dear = new SleepKeeper();
    dear.part(10, 9, 8, 7);
    dear.rise(0, 900, 900, 900, 0, 0, 0);
    dear.hold(0, 0, 20, 21);
    dear.hold(0, 0, 60, 64);
    due("dearer than AWAKE", dear.learn(0), 640);
    dear.back(0, 20);
    dear.back(1, 60);
    due("AWAKE through the longest SPAN", dear.ruledState(0, 38), 0);
    due("and no longer", dear.ruledState(0, 39), 3);
    SleepKeeper even = new SleepKeeper();
    even.part(10, 10, 10, 10);
    even.hold(0, 0, 30, 31);
    due("all even", even.learn(0), 640);
    even.back(0, 30);
    due("0, 0, 0 is the first", even.ruledState(0, 0), 3);
    SleepKeeper doze = new SleepKeeper();
    doze.part(10, 4, 4, 4);
    doze.rise(0, 12, 90, 90, 0, 0, 0);
    doze.hold(0, 0, 2, 3);
    doze.hold(0, 0, 9, 10);
    doze.hold(0, 0, 20, 64);
    // 2, 6 and 10 TICKS; DOZE at once: 8 + 24 + 40 and 3 * 12; behind 2: 20 + 20 + 16 + 20 + 32 and 2 * 12
    due("DOZE at once is the least", doze.learn(0), 72 + 36 + 460);
    for (int i = 0; i < 3; i++) {
      doze.back(i, new int[] {2, 9, 20}[i]);
    }
    due("DOZE", doze.ruledState(0, 9), 1);
    due("until the longest SPAN, then OFF", doze.ruledState(0, 10), 3);
  }

  private static void noneThrows() {
    promise = 0;
    int[] odd = {LEAST, -65, -1, 0, 1, 5, 6, 7, 8, 20, 31, 32, 63, 64, 65, MOST};
    SleepKeeper[] keepers = {new SleepKeeper(), one(), ofParts(6)};
    for (SleepKeeper x : keepers) {
      for (int a : odd) {
        x.look(a);
        x.waking(a);
        x.fires(a);
        x.when(a);
        x.spans(a);
        x.drain(a);
        x.ruled(a);
        x.without(a);
        x.blame(a);
        x.learn(a);
        for (int b : odd) {
          x.need(a, b, true);
          x.need(a, b, false);
          x.back(a, b);
          x.held(a, b);
          x.wanted(a, b);
          x.state(a, b);
          x.ruledState(a, b);
          x.order(a, b);
          for (int c : odd) {
            x.span(a, b, c);
            x.rule(a, b, c, c);
            x.hold(a, a, b, c);
            x.timer(a, a, b, c);
            x.part(c, b, a, a);
            x.rise(a, b, b, c, a, b, c);
          }
        }
      }
    }
    due("still there", keepers[2].look(0), 6);
  }
}
