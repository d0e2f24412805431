import java.io.IOException;
import java.lang.reflect.Constructor;
import java.lang.reflect.Field;
import java.lang.reflect.Method;
import java.lang.reflect.Modifier;
import java.nio.file.Files;
import java.nio.file.Path;
import java.util.ArrayList;
import java.util.Arrays;
import java.util.List;
import java.util.Set;
import java.util.TreeSet;
import java.util.regex.Matcher;
import java.util.regex.Pattern;

/** The public face, and what of ../shared/LANGUAGE.md can be read off the class and its source. */
public final class FaceTest {
  private static final Check CHECK = new Check();
  private static final Set<String> FACE = new TreeSet<>(Arrays.asList(
      "int begin(int)", "int edge(int,int,boolean)", "int label(int,int)", "int chance(int,int)",
      "int lean(int,int)", "int number()", "int become(int)", "int thing(int)", "int many(int)",
      "long total(int)", "long odds(int,int,int,int)", "long mean(int,int,int)",
      "long pair(int,int,int,int)", "long likely(int,int)", "int alike(int)", "int kinds()",
      "void seed(long)", "int swaps(int)", "int drawn(int)", "int blocks(int)", "int block(int)"));

  public static void main(String[] args) throws IOException {
    face();
    classesInside();
    source();
    CHECK.finish();
  }

  private static String told(Method m) {
    List<String> types = new ArrayList<>();
    for (Class<?> type : m.getParameterTypes()) {
      types.add(type.getSimpleName());
    }
    return m.getReturnType().getSimpleName() + " " + m.getName() + "(" + String.join(",", types) + ")";
  }

  private static void face() {
    Class<?> c = RandomModels.class;
    CHECK.holds("public and final", Modifier.isPublic(c.getModifiers()) && Modifier.isFinal(c.getModifiers()));
    Constructor<?>[] made = c.getDeclaredConstructors();
    CHECK.holds("one constructor, public, without parameters",
        made.length == 1 && Modifier.isPublic(made[0].getModifiers()) && made[0].getParameterCount() == 0);
    Set<String> seen = new TreeSet<>();
    for (Method m : c.getDeclaredMethods()) {
      if (!Modifier.isPrivate(m.getModifiers())) {
        seen.add(told(m));
        CHECK.holds("public, no static one: " + m.getName(),
            Modifier.isPublic(m.getModifiers()) && !Modifier.isStatic(m.getModifiers()));
      }
    }
    CHECK.holds("the methods are those of the face: " + seen, seen.equals(FACE));
    Set<String> constants = new TreeSet<>();
    for (Field f : c.getDeclaredFields()) {
      if (!Modifier.isPrivate(f.getModifiers())) {
        constants.add(f.getName());
      }
    }
    CHECK.holds("the constants are BAD and NONE", constants.equals(new TreeSet<>(Arrays.asList("BAD", "NONE"))));
  }

  private static void classesInside() {
    List<Class<?>> all = new ArrayList<>(Arrays.asList(RandomModels.class.getDeclaredClasses()));
    CHECK.holds("at most twelve classes", all.size() < 12);
    for (Class<?> c : all) {
      int how = c.getModifiers();
      CHECK.holds("static, not public: " + c, Modifier.isStatic(how) && !Modifier.isPublic(how));
    }
    all.add(RandomModels.class);
    for (Class<?> c : all) {
      int fields = 0;
      for (Field f : c.getDeclaredFields()) {
        boolean constant = Modifier.isStatic(f.getModifiers());
        fields += constant ? 0 : 1;
        CHECK.holds("static fields are final: " + f, !constant || Modifier.isFinal(f.getModifiers()));
      }
      CHECK.holds("at most twenty fields: " + c, fields <= 20);
      for (Method m : c.getDeclaredMethods()) {
        CHECK.holds("at most seven parameters: " + m, m.getParameterCount() <= 7);
        CHECK.holds("no other method with a name of the face: " + m,
            Modifier.isPublic(m.getModifiers()) || !isNameOfFace(m.getName()));
      }
    }
  }

  private static boolean isNameOfFace(String name) {
    for (String method : FACE) {
      if (method.contains(" " + name + "(")) {
        return true;
      }
    }
    return false;
  }

  private static void source() throws IOException {
    String text = Files.readString(Path.of("src/main/java/RandomModels.java"));
    String code = text.replaceAll("(?s)/\\*.*?\\*/", "").replaceAll("//[^\n]*", "");
    String[] forbidden = {
      "throw", "throws", "try", "catch", "finally", "synchronized", "assert", "import", "package",
      "protected", "Object", "double", "float", "equals", "hashCode", "toString", "Thread", "Random"
    };
    for (String word : forbidden) {
      CHECK.holds("no " + word, !Pattern.compile("\\b" + word + "\\b").matcher(code).find());
    }
    for (String sign : new String[] {"->", "::", "Exact", "static {", "@"}) {
      CHECK.holds("no " + sign, !code.contains(sign));
    }
    Set<String> library = new TreeSet<>();
    Matcher calls = Pattern.compile("\\b(?:Integer|Long|Math|System|Arrays)\\.\\w+").matcher(code);
    while (calls.find()) {
      library.add(calls.group());
    }
    library.removeAll(Arrays.asList("Integer.bitCount", "Math.max", "Math.min",
        "System.arraycopy"));
    CHECK.holds("nothing more of the library: " + library, library.isEmpty());
    CHECK.holds("no loop without a counter", !code.contains("while"));
  }
}
