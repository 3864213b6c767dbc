import java.util.ArrayList;
import java.util.List;
import java.util.Random;

/**
 * Long runs of drawn calls (seeds are fixed), each answered by SleepKeeper and by a second keeper
 * that goes TICK by TICK through the document's words and tries every RULE.
 */
public final class SleepKeeperAgainstModel {
  private static final int[] ODD = {Integer.MIN_VALUE, Integer.MIN_VALUE + 1, -100, -2, -1, 0, 1, 5, 6, 7, 8, 9, 10,
      11, 12, 19, 20, 21, 31, 32, 33, 62, 63, 64, 65, 99, 100, 127, 128, 999, 1000, Integer.MAX_VALUE - 1, Integer.MAX_VALUE};

  private static int wrong = 0;
  private static long calls = 0;

  public static void main(String[] args) {
    for (int seed = 1; seed <= 48 && wrong < 20; seed++) {
      run(seed);
    }
    for (int seed = 1; seed <= 40 && wrong < 20; seed++) {
      learned(seed);
    }
    System.out.println(calls + " calls compared with the model, " + wrong + " wrong");
    if (wrong != 0) {
      System.exit(1);
    }
  }

  private static void run(int seed) {
    Random r = new Random(seed);
    SleepKeeper x = new SleepKeeper();
    Model m = new Model();
    List<String> told = new ArrayList<>();
    // some runs keep SPANS long, some short, some are mostly wrong inputs
    int oddOf100 = seed % 5 == 0 ? 30 : 4;
    int longest = seed % 3 == 0 ? 4 : seed % 3 == 1 ? 12 : 40;
    int learns = 0;
    for (int n = 0; n < 512; n++) {
      int kind = n < 60 ? r.nextInt(8) : r.nextInt(28);
      if (kind == 24 && ++learns > 6) {
        kind = 15;
      }
      compare(seed, r, x, m, told, kind, oddOf100, longest);
      if (wrong >= 20) {
        return;
      }
    }
  }

  /**
   * Which thresholds were learned: when all HOLDS are given back there is one SPAN at the end of all
   * TICKS, in which nothing RISES, so that its STATES show every threshold.
   */
  private static void learned(int seed) {
    Random r = new Random(1000 + seed);
    SleepKeeper x = new SleepKeeper();
    Model m = new Model();
    int[] d = rising(r, 4, seed % 2 == 0 ? 100 : 8, 0);
    int[] c = rising(r, 3, seed % 3 == 0 ? 4 : 200, 0);
    int[] y = rising(r, 3, seed % 4 == 0 ? 3 : 10, 0);
    x.part(d[3], d[2], d[1], d[0]);
    m.part(d[3], d[2], d[1], d[0]);
    x.rise(0, c[0], c[1], c[2], y[0], y[1], y[2]);
    m.rise(0, c, y);
    int holds = 1 + r.nextInt(8);
    for (int i = 0; i < holds; i++) {
      int from = i == 0 && seed % 4 != 1 ? 63 : r.nextInt(64);
      x.hold(0, 0, from, from + 1);
      m.hold(0, 0, from, from + 1);
    }
    due(seed, "learn(0)", x.learn(0), m.learn(0));
    for (int i = 0; i < holds; i++) {
      x.back(i, m.holds.get(i)[2]);
      m.back(i, m.holds.get(i)[2]);
    }
    for (int tick = 0; tick < 64; tick++) {
      due(seed, "ruledState(0, " + tick + ") of what was learned", x.ruledState(0, tick), m.ruleStates(0)[tick]);
    }
  }

  private static void due(int seed, String call, long got, long want) {
    calls++;
    if (got != want) {
      wrong++;
      System.out.println("seed " + seed + ": " + call + " answered " + got + ", the model says " + want);
    }
  }

  private static int num(Random r, int below, int oddOf100) {
    return r.nextInt(100) < oddOf100 ? ODD[r.nextInt(ODD.length)] : r.nextInt(below);
  }

  private static int[] rising(Random r, int n, int below, int oddOf100) {
    int[] a = new int[n];
    for (int i = 0; i < n; i++) {
      a[i] = num(r, below, oddOf100 / 3);
    }
    if (r.nextInt(100) >= oddOf100) {
      java.util.Arrays.sort(a);
    }
    return a;
  }

  private static void compare(int seed, Random r, SleepKeeper x, Model m, List<String> told, int kind, int odd, int longest) {
    int p = num(r, m.parts.size() + (r.nextInt(20) == 0 ? 1 : 0) + (m.parts.isEmpty() ? 1 : 0), odd);
    int t = num(r, 64, odd);
    String call;
    long got;
    long want;
    switch (kind) {
      case 0: {
        int[] d = rising(r, 4, r.nextBoolean() ? 100 : 12, odd);
        call = "part(" + d[3] + ", " + d[2] + ", " + d[1] + ", " + d[0] + ")";
        got = x.part(d[3], d[2], d[1], d[0]);
        want = m.part(d[3], d[2], d[1], d[0]);
        break;
      }
      case 1: {
        int most = new int[] {3, 60, 300, 1000}[r.nextInt(4)];
        int[] c = rising(r, 3, most, odd);
        int[] y = rising(r, 3, r.nextBoolean() ? 10 : 4, odd);
        call = "rise(" + p + ", " + c[0] + ", " + c[1] + ", " + c[2] + ", " + y[0] + ", " + y[1] + ", " + y[2] + ")";
        got = x.rise(p, c[0], c[1], c[2], y[0], y[1], y[2]) ? 1 : 0;
        want = m.rise(p, c, y) ? 1 : 0;
        break;
      }
      case 2:
      case 25: {
        int q = num(r, Math.max(1, m.parts.size()), odd);
        boolean is = r.nextInt(4) != 0;
        call = "need(" + p + ", " + q + ", " + is + ")";
        got = x.need(p, q, is) ? 1 : 0;
        want = m.need(p, q, is) ? 1 : 0;
        break;
      }
      case 3:
      case 4: {
        if (kind == 4 && r.nextInt(3) == 0) {
          t = 64 - r.nextInt(longest);
        }
        int program = num(r, 8, odd);
        int to = r.nextInt(100) < odd ? ODD[r.nextInt(ODD.length)] : Math.min(64, t + r.nextInt(longest));
        call = "hold(" + program + ", " + p + ", " + t + ", " + to + ")";
        got = x.hold(program, p, t, to);
        want = m.hold(program, p, t, to);
        break;
      }
      case 5: {
        int i = num(r, Math.max(1, m.holds.size()), odd);
        if (i >= 0 && i < m.holds.size() && r.nextInt(3) != 0) {
          int[] h = m.holds.get(i);
          t = r.nextInt(3) == 0 ? h[2] : h[2] - 1 + r.nextInt(Math.max(1, h[3] - h[2]) + 2);
        }
        call = "back(" + i + ", " + t + ")";
        got = x.back(i, t) ? 1 : 0;
        want = m.back(i, t) ? 1 : 0;
        break;
      }
      case 6: {
        int program = num(r, 8, odd);
        int last = r.nextInt(100) < odd ? ODD[r.nextInt(ODD.length)] : Math.min(63, t + r.nextInt(longest));
        call = "timer(" + program + ", " + p + ", " + t + ", " + last + ")";
        got = x.timer(program, p, t, last);
        want = m.timer(program, p, t, last);
        break;
      }
      case 7: {
        int[] d = rising(r, 3, r.nextBoolean() ? 65 : 8, odd);
        call = "rule(" + p + ", " + d[0] + ", " + d[1] + ", " + d[2] + ")";
        got = x.rule(p, d[0], d[1], d[2]) ? 1 : 0;
        want = m.rule(p, d[0], d[1], d[2]) ? 1 : 0;
        break;
      }
      case 8: {
        int what = num(r, 4, odd);
        call = "look(" + what + ")";
        got = x.look(what);
        want = m.look(what);
        break;
      }
      case 9: {
        int i = num(r, 20, odd);
        int what = num(r, 4, odd);
        call = "held(" + i + ", " + what + ")";
        got = x.held(i, what);
        want = m.held(i, what);
        break;
      }
      case 10: {
        int i = num(r, 7, odd);
        call = "waking(" + i + ")";
        got = x.waking(i);
        want = m.waking(i);
        break;
      }
      case 11: {
        int i = num(r, 13, odd);
        call = "fires(" + i + ")";
        got = x.fires(i);
        want = m.fires(i);
        break;
      }
      case 12:
        call = "wanted(" + p + ", " + t + ")";
        got = x.wanted(p, t);
        want = m.wanted(p, t);
        break;
      case 13:
        call = "when(" + p + ")";
        got = x.when(p);
        want = m.when(p);
        break;
      case 14:
        call = "spans(" + p + ")";
        got = x.spans(p);
        want = m.isPart(p) ? m.spansOf(p).size() : -1;
        break;
      case 15:
      case 26:
      case 27: {
        int i = num(r, 6, odd);
        int what = num(r, 6, odd);
        call = "span(" + p + ", " + i + ", " + what + ")";
        got = x.span(p, i, what);
        want = m.span(p, i, what);
        break;
      }
      case 16:
        call = "drain(" + p + ")";
        got = x.drain(p);
        want = m.isPart(p) ? m.drain(p) : -1;
        break;
      case 17:
        call = "ruled(" + p + ")";
        got = x.ruled(p);
        want = m.isPart(p) ? m.ruled(p, m.parts.get(p).rule) : -1;
        break;
      case 18:
        call = "state(" + p + ", " + t + ")";
        got = x.state(p, t);
        want = m.isPart(p) && t >= 0 && t < 64 ? m.planStates(p)[t] : -1;
        break;
      case 19:
        call = "ruledState(" + p + ", " + t + ")";
        got = x.ruledState(p, t);
        want = m.isPart(p) && t >= 0 && t < 64 ? m.ruleStates(p)[t] : -1;
        break;
      case 20:
        call = "all()";
        got = x.all();
        want = m.all();
        break;
      case 21: {
        int i = num(r, 21, odd);
        call = "without(" + i + ")";
        got = x.without(i);
        want = m.without(i);
        break;
      }
      case 22: {
        int program = num(r, 10, odd);
        call = "blame(" + program + ")";
        got = x.blame(program);
        want = m.blame(program);
        break;
      }
      case 23: {
        int i = num(r, 4, odd);
        call = "order(" + t + ", " + i + ")";
        got = x.order(t, i);
        want = m.order(t, i);
        break;
      }
      default:
        call = "learn(" + p + ")";
        got = x.learn(p);
        want = m.learn(p);
        break;
    }
    calls++;
    told.add(call + " -> " + got);
    if (got != want) {
      wrong++;
      System.out.println("seed " + seed + ", call " + told.size() + ": " + call + " answered " + got + ", the model says " + want);
    }
  }

  private static final class PartOf {
    int[] drains = new int[4];
    int[] costs = new int[4];
    int[] rising = new int[4];
    int[] rule = {64, 64, 64};
  }

  /** The document's words, as slowly as they are written. */
  private static final class Model {
    final List<PartOf> parts = new ArrayList<>();
    final boolean[][] needs = new boolean[6][6];
    /** program, part, from, to */
    final List<int[]> holds = new ArrayList<>();
    /** program, part, first, last */
    final List<int[]> timers = new ArrayList<>();

    boolean isPart(int p) {
      return p >= 0 && p < parts.size();
    }

    static boolean in(int v, int least, int most) {
      return v >= least && v <= most;
    }

    int part(int... d) {
      for (int s = 0; s < 4; s++) {
        if (!in(d[s], 0, 99) || s > 0 && d[s] > d[s - 1]) {
          return -1;
        }
      }
      if (parts.size() == 6) {
        return -1;
      }
      PartOf made = new PartOf();
      made.drains = d.clone();
      parts.add(made);
      return parts.size() - 1;
    }

    boolean rise(int p, int[] costs, int[] rising) {
      if (!isPart(p)) {
        return false;
      }
      for (int k = 0; k < 3; k++) {
        if (!in(costs[k], k == 0 ? 0 : costs[k - 1], 999) || !in(rising[k], k == 0 ? 0 : rising[k - 1], 9)) {
          return false;
        }
      }
      for (int k = 0; k < 3; k++) {
        parts.get(p).costs[k + 1] = costs[k];
        parts.get(p).rising[k + 1] = rising[k];
      }
      return true;
    }

    /** p NEEDS q, over others too. */
    boolean reaches(int p, int q) {
      if (needs[p][q]) {
        return true;
      }
      for (int k = 0; k < 6; k++) {
        if (needs[p][k] && reaches(k, q)) {
          return true;
        }
      }
      return false;
    }

    boolean need(int p, int q, boolean is) {
      if (!isPart(p) || !isPart(q) || needs[p][q] == is) {
        return false;
      }
      if (is && (p == q || reaches(q, p))) {
        return false;
      }
      needs[p][q] = is;
      return true;
    }

    int hold(int program, int p, int from, int to) {
      if (!in(program, 0, 7) || !isPart(p) || !in(from, 0, 63) || !in(to, 1, 64) || from >= to || holds.size() == 20) {
        return -1;
      }
      holds.add(new int[] {program, p, from, to});
      return holds.size() - 1;
    }

    boolean back(int i, int tick) {
      if (!in(i, 0, holds.size() - 1) || tick < holds.get(i)[2] || tick >= holds.get(i)[3]) {
        return false;
      }
      holds.get(i)[3] = tick;
      return true;
    }

    int timer(int program, int p, int first, int last) {
      if (!in(program, 0, 7) || !isPart(p) || !in(first, 0, 63) || !in(last, 0, 63) || first > last || timers.size() == 12) {
        return -1;
      }
      timers.add(new int[] {program, p, first, last});
      return timers.size() - 1;
    }

    boolean rule(int p, int doze, int sleep, int off) {
      if (!isPart(p) || !in(doze, 0, 64) || !in(sleep, 0, 64) || !in(off, 0, 64) || sleep < doze || off < sleep) {
        return false;
      }
      parts.get(p).rule = new int[] {doze, sleep, off};
      return true;
    }

    /** TICK by TICK: a window that ends here and has had no WAKING gets one here. */
    List<Integer> wakings() {
      List<Integer> chosen = new ArrayList<>();
      for (int tick = 0; tick < 64; tick++) {
        boolean must = false;
        for (int[] w : timers) {
          if (w[3] == tick) {
            boolean has = false;
            for (int c : chosen) {
              has |= in(c, w[2], w[3]);
            }
            must |= !has;
          }
        }
        if (must) {
          chosen.add(tick);
        }
      }
      return chosen;
    }

    int look(int what) {
      return what == 0 ? parts.size() : what == 1 ? holds.size() : what == 2 ? timers.size() : what == 3 ? wakings().size() : -1;
    }

    int held(int i, int what) {
      return in(i, 0, holds.size() - 1) && in(what, 0, 3) ? holds.get(i)[what] : -1;
    }

    int waking(int i) {
      List<Integer> w = wakings();
      return in(i, 0, w.size() - 1) ? w.get(i) : -1;
    }

    int fires(int i) {
      if (!in(i, 0, timers.size() - 1)) {
        return -1;
      }
      for (int c : wakings()) {
        if (in(c, timers.get(i)[2], timers.get(i)[3])) {
          return c;
        }
      }
      throw new IllegalStateException("a TIMER without WAKING");
    }

    /** The PROGRAMS that want p at a TICK. */
    boolean[] wanters(int p, int tick) {
      boolean[] by = new boolean[8];
      for (int q = 0; q < parts.size(); q++) {
        if (q != p && !reaches(q, p)) {
          continue;
        }
        for (int[] h : holds) {
          by[h[0]] |= h[1] == q && tick >= h[2] && tick < h[3];
        }
        for (int i = 0; i < timers.size(); i++) {
          by[timers.get(i)[0]] |= timers.get(i)[1] == q && fires(i) == tick;
        }
      }
      return by;
    }

    static int count(boolean[] set) {
      int n = 0;
      for (boolean b : set) {
        n += b ? 1 : 0;
      }
      return n;
    }

    boolean isWanted(int p, int tick) {
      return count(wanters(p, tick)) > 0;
    }

    int wanted(int p, int tick) {
      return !isPart(p) || !in(tick, 0, 63) ? -1 : isWanted(p, tick) ? 1 : 0;
    }

    long when(int p) {
      long bits = 0;
      if (isPart(p)) {
        for (int tick = 0; tick < 64; tick++) {
          if (isWanted(p, tick)) {
            bits += 1L << tick;
          }
        }
      }
      return bits;
    }

    /** first TICK and the one behind */
    List<int[]> spansOf(int p) {
      List<int[]> found = new ArrayList<>();
      long bits = when(p);
      int from = -1;
      for (int tick = 0; tick <= 64; tick++) {
        boolean idle = tick < 64 && (bits >> tick & 1) == 0;
        if (idle && from < 0) {
          from = tick;
        }
        if (!idle && from >= 0) {
          found.add(new int[] {from, tick});
          from = -1;
        }
      }
      return found;
    }

    /** DRAIN TICK by TICK of a SPAN in the PLAN in a STATE; -1 if it can't be. */
    int sum(PartOf part, int[] span, int s) {
      int len = span[1] - span[0];
      boolean end = span[1] == 64;
      if (!end && part.rising[s] > len) {
        return -1;
      }
      int sum = end ? 0 : part.costs[s];
      for (int tick = span[0]; tick < span[1]; tick++) {
        boolean up = !end && tick >= span[1] - part.rising[s];
        sum += part.drains[up ? 0 : s];
      }
      return sum;
    }

    int best(PartOf part, int[] span) {
      int best = 0;
      for (int s = 1; s < 4; s++) {
        int sum = sum(part, span, s);
        best = sum >= 0 && sum < sum(part, span, best) ? s : best;
      }
      return best;
    }

    int span(int p, int i, int what) {
      if (!isPart(p) || !in(i, 0, spansOf(p).size() - 1) || !in(what, 0, 5)) {
        return -1;
      }
      PartOf part = parts.get(p);
      int[] span = spansOf(p).get(i);
      int s = best(part, span);
      int up = s == 0 || span[1] == 64 ? -1 : span[1] - part.rising[s];
      int[] answers = {span[0], span[1] - span[0], s, sum(part, span, s), (span[1] - span[0]) * part.drains[0], up};
      return answers[what];
    }

    int idleDrain(int p) {
      int sum = 0;
      for (int[] span : spansOf(p)) {
        sum += sum(parts.get(p), span, best(parts.get(p), span));
      }
      return sum;
    }

    int drain(int p) {
      return idleDrain(p) + Long.bitCount(when(p)) * parts.get(p).drains[0];
    }

    int[] planStates(int p) {
      int[] states = new int[64];
      for (int[] span : spansOf(p)) {
        int s = best(parts.get(p), span);
        for (int tick = span[0]; tick < span[1]; tick++) {
          states[tick] = span[1] == 64 || tick < span[1] - parts.get(p).rising[s] ? s : 0;
        }
      }
      return states;
    }

    static int byRule(int[] rule, int place) {
      int s = 0;
      s = place >= rule[0] ? 1 : s;
      s = place >= rule[1] ? 2 : s;
      s = place >= rule[2] ? 3 : s;
      return s;
    }

    /** The latest place at which it can RISE, looked for from the end. */
    static int risesAt(PartOf part, int[] rule, int len) {
      for (int r = len; r > 0; r--) {
        if (r + part.rising[byRule(rule, r - 1)] <= len) {
          return r;
        }
      }
      return 0;
    }

    int ruledSpan(PartOf part, int[] rule, int[] span) {
      int len = span[1] - span[0];
      boolean end = span[1] == 64;
      int r = end ? len : risesAt(part, rule, len);
      int sum = end || r == 0 ? 0 : part.costs[byRule(rule, r - 1)];
      for (int place = 0; place < len; place++) {
        sum += part.drains[place < r ? byRule(rule, place) : 0];
      }
      return sum;
    }

    int ruled(int p, int[] rule) {
      int sum = Long.bitCount(when(p)) * parts.get(p).drains[0];
      for (int[] span : spansOf(p)) {
        sum += ruledSpan(parts.get(p), rule, span);
      }
      return sum;
    }

    int[] ruleStates(int p) {
      int[] states = new int[64];
      PartOf part = parts.get(p);
      for (int[] span : spansOf(p)) {
        int len = span[1] - span[0];
        int r = span[1] == 64 ? len : risesAt(part, part.rule, len);
        for (int place = 0; place < r; place++) {
          states[span[0] + place] = byRule(part.rule, place);
        }
      }
      return states;
    }

    int all() {
      int sum = 0;
      for (int p = 0; p < parts.size(); p++) {
        sum += drain(p);
      }
      return sum;
    }

    int without(int i) {
      if (!in(i, 0, holds.size() - 1)) {
        return -100001;
      }
      int with = all();
      int[] hold = holds.remove(i);
      int less = with - all();
      holds.add(i, hold);
      return less;
    }

    int blame(int program) {
      if (!in(program, 0, 8)) {
        return -1;
      }
      int sum = 0;
      for (int p = 0; p < parts.size(); p++) {
        if (program == 8) {
          sum += 840 * idleDrain(p);
          continue;
        }
        for (int tick = 0; tick < 64; tick++) {
          boolean[] by = wanters(p, tick);
          sum += by[program] ? 840 * parts.get(p).drains[0] / count(by) : 0;
        }
      }
      return sum;
    }

    int order(int tick, int i) {
      if (!in(tick, 0, 63)) {
        return -1;
      }
      List<Integer> left = new ArrayList<>();
      for (int p = 0; p < parts.size(); p++) {
        if (isWanted(p, tick) && (tick == 0 || !isWanted(p, tick - 1))) {
          left.add(p);
        }
      }
      List<Integer> up = new ArrayList<>();
      while (!left.isEmpty()) {
        for (int k = 0; k < left.size(); k++) {
          boolean free = true;
          for (int q : left) {
            free &= !reaches(left.get(k), q);
          }
          if (free) {
            up.add(left.remove(k));
            break;
          }
        }
      }
      return in(i, 0, up.size() - 1) ? up.get(i) : -1;
    }

    int learn(int p) {
      if (!isPart(p)) {
        return -1;
      }
      PartOf part = parts.get(p);
      List<int[]> spans = spansOf(p);
      int least = Integer.MAX_VALUE;
      for (int doze = 0; doze <= 64; doze++) {
        for (int sleep = doze; sleep <= 64; sleep++) {
          for (int off = sleep; off <= 64; off++) {
            int[] rule = {doze, sleep, off};
            int sum = 0;
            for (int[] span : spans) {
              sum += ruledSpan(part, rule, span);
            }
            if (sum < least) {
              least = sum;
              part.rule = rule;
            }
          }
        }
      }
      return least + Long.bitCount(when(p)) * part.drains[0];
    }
  }
}
