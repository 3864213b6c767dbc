import java.io.IOException;
import java.lang.reflect.Constructor;
import java.lang.reflect.Field;
import java.lang.reflect.Method;
import java.lang.reflect.Modifier;
import java.nio.charset.StandardCharsets;
import java.nio.file.Files;
import java.nio.file.Path;
import java.util.ArrayList;
import java.util.HashSet;
import java.util.List;
import java.util.Set;
import java.util.TreeSet;
import java.util.regex.Matcher;
import java.util.regex.Pattern;

/** The document's face and those rules of LANGUAGE.md that can be seen from outside; args[0] is the source file. */
public final class SleepKeeperForm {
  private static final String[] FACE = {
    "int part(int,int,int,int)", "boolean rise(int,int,int,int,int,int,int)", "boolean need(int,int,boolean)",
    "int hold(int,int,int,int)", "boolean back(int,int)", "int timer(int,int,int,int)", "boolean rule(int,int,int,int)",
    "int look(int)", "int held(int,int)", "int waking(int)", "int fires(int)", "int wanted(int,int)", "long when(int)",
    "int spans(int)", "int span(int,int,int)", "int drain(int)", "int ruled(int)", "int state(int,int)",
    "int ruledState(int,int)", "int all()", "int without(int)", "int blame(int)", "int order(int,int)", "int learn(int)"};
  private static final String[] RULED_OUT = {"throw", "throws", "try", "catch", "synchronized", "assert", "finally", "import", "package",
    "protected", "volatile", "System", "Thread", "Exact", "Object", "hashCode", "toString", "->", "::", "@"};

  private static int wrong = 0;

  private static void due(boolean holds, String what) {
    if (!holds) {
      wrong++;
      System.out.println(what);
    }
  }

  private static String signature(Method m) {
    StringBuilder text = new StringBuilder(m.getReturnType().getName()).append(' ').append(m.getName()).append('(');
    for (Class<?> type : m.getParameterTypes()) {
      text.append(text.charAt(text.length() - 1) == '(' ? "" : ",").append(type.getName());
    }
    return text.append(')').toString();
  }

  private static void face() throws ReflectiveOperationException {
    Class<?> c = SleepKeeper.class;
    due(Modifier.isPublic(c.getModifiers()) && Modifier.isFinal(c.getModifiers()), "the class is public and final");
    Set<String> open = new TreeSet<>();
    Set<String> openNames = new TreeSet<>();
    Set<String> closedNames = new TreeSet<>();
    for (Method m : c.getDeclaredMethods()) {
      due(Modifier.isPublic(m.getModifiers()) || Modifier.isPrivate(m.getModifiers()), m + " is neither public nor private");
      (Modifier.isPublic(m.getModifiers()) ? openNames : closedNames).add(m.getName());
      if (Modifier.isPublic(m.getModifiers())) {
        due(!Modifier.isStatic(m.getModifiers()), m + " is static");
        open.add(signature(m));
      }
    }
    for (Class<?> nested : c.getDeclaredClasses()) {
      due(Modifier.isStatic(nested.getModifiers()) && !Modifier.isPublic(nested.getModifiers()), nested + " is static and not public");
      for (Method m : nested.getDeclaredMethods()) {
        closedNames.add(m.getName());
      }
    }
    due(open.equals(new TreeSet<>(List.of(FACE))), "the public methods are " + open);
    closedNames.retainAll(openNames);
    due(closedNames.isEmpty(), "other methods bear names of the face: " + closedNames);
    for (Field f : c.getDeclaredFields()) {
      due(Modifier.isPrivate(f.getModifiers()) || f.getName().equals("NONE"), f + " is not private");
    }
    Field none = c.getField("NONE");
    due(none.getType() == int.class && none.getInt(null) == -1 && Modifier.isFinal(none.getModifiers()), "NONE is the constant -1");
    Constructor<?>[] made = c.getDeclaredConstructors();
    due(made.length == 1 && Modifier.isPublic(made[0].getModifiers()) && made[0].getParameterCount() == 0, "one public constructor");
  }

  /** Rules 3 and 11: types, and how much there is of each. */
  private static void sizes() {
    List<Class<?>> classes = new ArrayList<>(List.of(SleepKeeper.class.getDeclaredClasses()));
    classes.add(SleepKeeper.class);
    due(classes.size() <= 12, "more than twelve classes");
    Set<Class<?>> types = new HashSet<>(List.of(int.class, long.class, boolean.class, int[].class, long[].class));
    for (Class<?> c : classes) {
      types.add(c);
      types.add(c.arrayType());
    }
    for (Class<?> c : classes) {
      int fields = 0;
      for (Field f : c.getDeclaredFields()) {
        fields += Modifier.isStatic(f.getModifiers()) ? 0 : 1;
        due(types.contains(f.getType()), f + " is of a type that was not seen here ahead: is it allowed?");
        due(!Modifier.isStatic(f.getModifiers()) || Modifier.isFinal(f.getModifiers()), f + " is static, but not final");
      }
      due(fields <= 20, c + " has more than twenty fields");
      for (Method m : c.getDeclaredMethods()) {
        due(m.getParameterCount() <= 7, m + " takes more than seven parameters");
      }
    }
  }

  /** Rule 11, too: a method ends with the brace below its own first sign. */
  private static void lengths(String text) {
    Matcher m = Pattern.compile("(?ms)^( {4}| {8})(?! )(?!private static final class)[^\\n]*\\{\\n.*?^\\1\\}").matcher(text);
    int seen = 0;
    while (m.find()) {
      String[] lines = m.group().split("\n");
      due(lines.length <= 60, "a method of more than sixty lines: " + lines[0]);
      seen++;
    }
    due(seen > FACE.length, "the methods of the source were not found");
  }

  private static void source(Path file) throws IOException {
    byte[] bytes = Files.readAllBytes(file);
    for (byte b : bytes) {
      due(b > 0, "a sign that is not 1 to 127");
    }
    String text = new String(bytes, StandardCharsets.US_ASCII).replaceAll("(?s)/\\*.*?\\*/", "").replaceAll("//[^\n]*", "");
    for (String word : RULED_OUT) {
      String edge = Character.isLetter(word.charAt(0)) ? "\\b" : "";
      Matcher m = Pattern.compile(edge + Pattern.quote(word) + edge).matcher(text);
      due(!m.find(), "the source has '" + word + "'");
    }
    lengths(text);
    List<String> made = new ArrayList<>();
    Matcher m = Pattern.compile("(?m)^.*\\bnew\\b.*$").matcher(text);
    while (m.find()) {
      made.add(m.group());
    }
    for (String line : made) {
      // what is made with the object alone: fields, and what constructors put into fields
      due(line.matches("\\s*private final .*") || line.matches("\\s*(parts\\[p\\]|programs|wantedParts|froms|tos) = new .*"), "an object made elsewhere: " + line);
    }
  }

  public static void main(String[] args) throws Exception {
    face();
    sizes();
    if (args.length > 0) {
      source(Path.of(args[0]));
    }
    System.out.println(wrong == 0 ? "the form is as due" : wrong + " faults of form");
    if (wrong != 0) {
      System.exit(1);
    }
  }
}
