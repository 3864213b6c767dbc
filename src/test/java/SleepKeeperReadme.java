import java.io.IOException;
import java.lang.reflect.Method;
import java.lang.reflect.Modifier;
import java.nio.file.Files;
import java.nio.file.Path;
import java.util.ArrayList;
import java.util.List;
import java.util.regex.Matcher;
import java.util.regex.Pattern;
import java.util.stream.Stream;

/** README.md tells the truth: its example answers what it says there; args[0] is the path of SleepKeeper.java. */
public final class SleepKeeperReadme {
  private static final Pattern MADE = Pattern.compile("(?m)^(?:int \\w+ = )?(keeper\\.\\w+\\([^)]*\\));");
  private static final Pattern TOLD = Pattern.compile("(?m)^(keeper\\.\\w+\\([^)]*\\)); +// (-?\\d+): ");

  private static final List<String> made = new ArrayList<>();
  private static final List<String> told = new ArrayList<>();
  private static int wrong = 0;

  private static void due(boolean holds, String what) {
    if (!holds) {
      wrong++;
      System.out.println(what);
    }
  }

  private static void answer(String call, long got) {
    made.add(call);
    told.add(call + " " + got);
  }

  private static void done(String call, boolean holds) {
    made.add(call);
    due(holds, call + " was refused");
  }

  private static void example() {
    SleepKeeper keeper = new SleepKeeper();
    int disk = keeper.part(10, 4, 1, 0);
    done("keeper.part(10, 4, 1, 0)", disk == 0);
    int bus = keeper.part(6, 3, 2, 2);
    done("keeper.part(6, 3, 2, 2)", bus == 1);
    done("keeper.rise(disk, 2, 5, 20, 0, 1, 3)", keeper.rise(disk, 2, 5, 20, 0, 1, 3));
    done("keeper.need(disk, bus, true)", keeper.need(disk, bus, true));
    done("keeper.hold(0, disk, 10, 12)", keeper.hold(0, disk, 10, 12) == 0);
    done("keeper.timer(1, disk, 15, 20)", keeper.timer(1, disk, 15, 20) == 0);
    answer("keeper.fires(0)", keeper.fires(0));
    answer("keeper.wanted(bus, 11)", keeper.wanted(bus, 11));
    answer("keeper.spans(disk)", keeper.spans(disk));
    answer("keeper.span(disk, 0, 2)", keeper.span(disk, 0, 2));
    answer("keeper.span(disk, 0, 5)", keeper.span(disk, 0, 5));
    answer("keeper.state(disk, 63)", keeper.state(disk, 63));
    answer("keeper.drain(disk)", keeper.drain(disk));
    answer("keeper.all()", keeper.all());
    answer("keeper.ruled(disk)", keeper.ruled(disk));
    answer("keeper.learn(disk)", keeper.learn(disk));
    answer("keeper.without(0)", keeper.without(0));
    answer("keeper.blame(0)", keeper.blame(0));
    answer("keeper.blame(8)", keeper.blame(8));
    answer("keeper.order(10, 0)", keeper.order(10, 0));
  }

  private static void sameAs(String page) {
    List<String> pageMade = new ArrayList<>();
    Matcher m = MADE.matcher(page);
    while (m.find()) {
      pageMade.add(m.group(1));
    }
    due(pageMade.equals(made), "the page calls " + pageMade + ", this test " + made);
    List<String> pageTold = new ArrayList<>();
    m = TOLD.matcher(page);
    while (m.find()) {
      pageTold.add(m.group(1) + " " + m.group(2));
    }
    due(pageTold.equals(told), "the page tells " + pageTold + ", answered was " + told);
  }

  private static void whatIsNotThere() {
    SleepKeeper keeper = new SleepKeeper();
    due(keeper.when(0) == 0L, "when of no PART is 0");
    due(keeper.without(0) == SleepKeeper.NONE - 100000, "without of no HOLD is NONE - 100000");
    int[] others = {keeper.part(0, 1, 0, 0), keeper.hold(0, 0, 0, 1), keeper.timer(0, 0, 0, 0), keeper.learn(0), keeper.look(4),
        keeper.held(0, 0), keeper.waking(0), keeper.fires(0), keeper.wanted(0, 0), keeper.spans(0), keeper.span(0, 0, 0), keeper.drain(0),
        keeper.ruled(0), keeper.state(0, 0), keeper.ruledState(0, 0), keeper.blame(9), keeper.order(0, 0)};
    for (int k = 0; k < others.length; k++) {
      due(others[k] == SleepKeeper.NONE, "all others answer NONE, but not number " + k + " here");
    }
    due(!keeper.rise(0, 0, 0, 0, 0, 0, 0) && !keeper.need(0, 1, true) && !keeper.back(0, 0) && !keeper.rule(0, 0, 0, 0), "false");
  }

  private static void names(String page, Path tests) throws IOException {
    for (Method m : SleepKeeper.class.getDeclaredMethods()) {
      if (Modifier.isPublic(m.getModifiers())) {
        due(page.contains("`" + m.getName() + "("), "the page does not tell of " + m.getName());
      }
    }
    try (Stream<Path> files = Files.list(tests)) {
      files.forEach(f -> due(page.contains("`src/test/java/" + f.getFileName() + "`"), "the page does not tell of " + f.getFileName()));
    }
  }

  public static void main(String[] args) throws IOException {
    example();
    whatIsNotThere();
    if (args.length > 0) {
      Path root = Path.of(args[0]).toAbsolutePath().getParent().resolve("../../..").normalize();
      String page = Files.readString(root.resolve("README.md"));
      sameAs(page);
      due(page.contains("`when(p)` answers 0"), "the page does not tell what when answers of no PART");
      due(page.contains("`without(i)` answers `NONE - 100000`"), "the page does not tell what without answers of no HOLD");
      names(page, root.resolve("src/test/java"));
    }
    System.out.println(wrong == 0 ? "the page is as due" : wrong + " faults of the page");
    if (wrong != 0) {
      System.exit(1);
    }
  }
}
