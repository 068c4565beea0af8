import java.lang.reflect.Constructor;
import java.lang.reflect.Field;
import java.lang.reflect.Method;
import java.lang.reflect.Modifier;
import java.nio.file.Files;
import java.nio.file.Path;
import java.util.ArrayList;
import java.util.HashSet;
import java.util.List;
import java.util.Set;
import java.util.TreeSet;
import java.util.regex.Matcher;
import java.util.regex.Pattern;

/** What of LANGUAGE.md can be seen from the source and the class: the face, words, sizes, what is made. */
public final class LanguageTest {
  private static final String FACE = "page(int) seen(int,int) good(int,int) size(int,int,int,int,int) told(int,int) bond(int,int,int,int) "
    + "extra(int,int) set(int,int) type(long,int) book() count(int) choose(int,int) plan(int,int,int) brings(int) worth() breaks(int) "
    + "square(int) judge(int,int,int,int) fits(int) best(int) take() squares(int,int) bound() steps(int) more(int) less(int) through(int) "
    + "mended(int,int) year(int,int,int) learnt(int,int) image() restore() sheet(int,int,int) drop(int) item(int,int,int,int)";
  private static final String CONSTANTS = "BAD=-1 NOT=-2 FULL=-3 NONE=-4 NULL=-11 CAST=-12 INDEX=-13 SIZE=-14";
  private static final Set<String> LIBRARY = Set.of("System.arraycopy", "Arrays.fill", "Arrays.copyOf", "Arrays.copyOfRange",
    "Integer.bitCount", "Math.max", "Math.min", "Math.abs", "Math.floorDiv", "Math.floorMod");
  private static int wrong = 0;

  private static void rule(int number, String what, boolean holds) {
    if (holds) return;
    wrong++;
    System.out.println("rule " + number + ": " + what);
  }

  public static void main(String[] args) throws Exception {
    String source = Files.readString(Path.of("src/main/java/GoodsBook.java"));
    face();
    classes();
    words(withoutComments(source));
    sizes(source);
    makesNothingLater();
    System.out.println("rules of the language, " + wrong + " wrong");
    if (wrong > 0) System.exit(1);
  }

  private static String withoutComments(String source) {
    return source.replaceAll("(?s)/\\*.*?\\*/", "").replaceAll("//[^\n]*", "");
  }

  private static void face() throws Exception {
    Set<String> face = new TreeSet<>();
    Set<String> names = new HashSet<>();
    for (Method m : GoodsBook.class.getDeclaredMethods()) {
      if (Modifier.isPrivate(m.getModifiers())) continue;
      StringBuilder sign = new StringBuilder(m.getName()).append('(');
      for (Class<?> c : m.getParameterTypes()) sign.append(sign.charAt(sign.length() - 1) == '(' ? "" : ",").append(c.getName());
      face.add(sign.append(')').toString());
      names.add(m.getName());
      rule(1, m + " is not as the document has it", m.getReturnType() == int.class && m.getModifiers() == Modifier.PUBLIC);
    }
    rule(1, "the face is " + face, face.equals(new TreeSet<>(List.of(FACE.split(" ")))));
    Set<String> constants = new TreeSet<>();
    for (Field f : GoodsBook.class.getDeclaredFields()) {
      if (Modifier.isPrivate(f.getModifiers())) continue;
      rule(1, f + " is no constant", f.getModifiers() == (Modifier.PUBLIC | Modifier.STATIC | Modifier.FINAL));
      constants.add(f.getName() + "=" + f.getInt(null));
    }
    rule(1, "the constants are " + constants, constants.equals(new TreeSet<>(List.of(CONSTANTS.split(" ")))));
    Constructor<?>[] made = GoodsBook.class.getDeclaredConstructors();
    rule(1, "one public constructor", made.length == 1 && made[0].getModifiers() == Modifier.PUBLIC && made[0].getParameterCount() == 0);
    rule(1, "public and final", GoodsBook.class.getModifiers() == (Modifier.PUBLIC | Modifier.FINAL));
    for (Class<?> c : all()) {
      for (Method m : c.getDeclaredMethods()) {
        if (c == GoodsBook.class && !Modifier.isPrivate(m.getModifiers())) continue;
        rule(1, m + " bears the name of a public method", !names.contains(m.getName()));
      }
    }
  }

  private static List<Class<?>> all() {
    List<Class<?>> all = new ArrayList<>(List.of(GoodsBook.class.getDeclaredClasses()));
    all.add(GoodsBook.class);
    return all;
  }

  private static void classes() {
    rule(11, "more than twelve classes", all().size() <= 12);
    Set<String> constant = Set.of("int", "long", "boolean", "char", "java.lang.String", "[I", "[J", "[C", "[B");
    for (Class<?> c : all()) {
      rule(2, c + " is not static", c == GoodsBook.class || Modifier.isStatic(c.getModifiers()));
      rule(2, c + " has classes inside", c == GoodsBook.class || c.getDeclaredClasses().length == 0);
      int fields = 0;
      for (Field f : c.getDeclaredFields()) {
        if (!Modifier.isStatic(f.getModifiers())) {
          fields++;
          continue;
        }
        rule(5, f + " is not final", Modifier.isFinal(f.getModifiers()));
        rule(5, f + " is of such a type", constant.contains(f.getType().getName()));
      }
      rule(11, c + " has more than twenty fields", fields <= 20);
      for (Method m : c.getDeclaredMethods()) rule(11, m + " has more than seven parameters", m.getParameterCount() <= 7);
    }
  }

  private static void words(String code) {
    for (String word : "throw throws try catch finally synchronized assert import package record enum interface double float goto native".split(" ")) {
      String text = word.equals("import") ? code.replace("import java.util.Arrays;", "") : code;
      rule(6, "the word " + word, !Pattern.compile("\\b" + word + "\\b").matcher(text).find());
    }
    rule(2, "a lambda or a method reference", !code.contains("->") && !code.contains("::"));
    Matcher call = Pattern.compile("\\b(System|Arrays|Integer|Long|Math|String|Character|Thread|Runtime|Objects)\\.(\\w+)").matcher(code);
    while (call.find()) rule(4, call.group(), LIBRARY.contains(call.group()));
    rule(12, "texts joined by +", !Pattern.compile("\"\\s*\\+|\\+\\s*\"").matcher(code.replace("\"+-\"", "")).find());
  }

  private static void sizes(String source) {
    String[] lines = source.split("\n");
    int start = -1;
    for (int i = 0; i < lines.length; i++) {
      rule(11, "line " + (i + 1) + " is longer than 120 signs", lines[i].length() <= 120);
      boolean opens = lines[i].matches(" {2}( {2})?(private |public |static |final )*[\\w\\[\\]]+ \\w+\\(.*\\{") || lines[i].matches(" {2}( {2})?\\w+\\(.*\\{");
      if (opens) start = i;
      if (start >= 0 && lines[i].matches(" {2}( {2})?\\}")) {
        rule(11, "the method at line " + (start + 1) + " is longer than sixty lines", i - start <= 60);
        start = -1;
      }
      // Rows and objects are made with the object alone, as fields.
      if (lines[i].contains("new ") && !lines[i].trim().startsWith("*") && !lines[i].trim().startsWith("/*")) {
        rule(12, "line " + (i + 1) + " makes something later", lines[i].matches(" +(private )?final [\\w\\[\\]]+ \\w+ = new .*;"));
      }
    }
  }

  /** A full run of the dearest calls makes no more objects than a short one: all rows are made with the object. */
  private static void makesNothingLater() {
    com.sun.management.ThreadMXBean bean = (com.sun.management.ThreadMXBean) java.lang.management.ManagementFactory.getThreadMXBean();
    GoodsBook x = new GoodsBook();
    for (int i = 0; i < 3; i++) x.page(20 + i);
    for (int i = 0; i < 6; i++) x.good(i % 4, 0);
    long before = bean.getCurrentThreadAllocatedBytes();
    for (int i = 0; i < 80; i++) {
      x.size(i % 6, i & 1, 1 + i % 3, 1 + i / 3 % 3, i);
      x.best(-1);
      x.mended(i % 6, -1);
      x.less(0);
      x.squares(1, -1);
    }
    long made = bean.getCurrentThreadAllocatedBytes() - before;
    rule(12, "calls made " + made + " bytes", made < 4096);
  }
}
