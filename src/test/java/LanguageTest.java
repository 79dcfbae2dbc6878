import java.io.IOException;
import java.lang.reflect.Field;
import java.lang.reflect.Method;
import java.lang.reflect.Modifier;
import java.nio.file.Files;
import java.nio.file.Path;
import java.util.ArrayList;
import java.util.List;
import java.util.regex.Matcher;
import java.util.regex.Pattern;

/** The rules of LANGUAGE.md that can be seen in the text of the class or in its compiled form. */
public final class LanguageTest {
  private static final Path SOURCE = Path.of("src/main/java/RefHeap.java");
  private static final String[] WORDS_OUTSIDE = {
    "package", "import", "try", "catch", "finally", "synchronized", "assert", "protected",
    "native", "volatile", "transient", "Object", "Throwable", "equals", "hashCode", "toString"
  };
  private static final int MOST_PARAMETERS = 7;
  private static final int MOST_METHOD_LINES = 60;
  private static final int MOST_CLASSES = 12;
  private static final int MOST_FIELDS = 20;

  public static void main(String[] args) throws IOException {
    String source = Files.readString(SOURCE);
    characters(source);
    String code = withoutCommentsAndTexts(source);
    words(code);
    library(code);
    exceptions(code);
    methodLines(code);
    List<Class<?>> classes = classes();
    Due.says("rule 11: at most some twelve classes");
    Due.holds(classes.size() + " classes", classes.size() <= MOST_CLASSES);
    for (Class<?> one : classes) {
      members(one);
    }
    Due.finish();
  }

  private static void characters(String source) {
    Due.says("rule 3: characters 0 to 255");
    Due.equal("characters above", source.chars().filter(c -> c > 255).count(), 0);
  }

  private static String withoutCommentsAndTexts(String source) {
    String code = source.replaceAll("(?s)/\\*.*?\\*/", "").replaceAll("//[^\n]*", "");
    return code.replaceAll("\"[^\"\n]*\"", "\"\"");
  }

  private static void words(String code) {
    Due.says("rules 1, 2, 5, 6: what the class may not hold");
    for (String word : WORDS_OUTSIDE) {
      Due.equal(word, times(code, "\\b" + word + "\\b"), 0);
    }
    Due.equal("lambdas and arrows", times(code, "->"), 0);
    Due.equal("method references", times(code, "::"), 0);
    Due.equal("static blocks", times(code, "\\bstatic\\s*\\{"), 0);
    Due.equal("annotations", times(code, "@"), 0);
  }

  /** A constant such as Integer.MAX_VALUE is no function, so it is outside, too. */
  private static void library(String code) {
    Due.says("rule 4: of Math, Integer and Long the static functions, none ending in Exact");
    Matcher used = Pattern.compile("\\b([A-Z]\\w*)\\s*\\.\\s*(\\w+)(\\s*\\()?").matcher(code);
    while (used.find()) {
      boolean listed = List.of("Math", "Integer", "Long").contains(used.group(1));
      boolean function = used.group(3) != null && !used.group(2).endsWith("Exact");
      Due.holds(used.group(1) + "." + used.group(2), listed && function);
    }
  }

  private static void exceptions(String code) {
    Due.says("rule 6: throw new E(\"a written text\")");
    String written = "\\bthrow new Illegal(Argument|State)Exception\\(\"\"\\);";
    Due.equal("throws", times(code, written), times(code, "\\bthrow\\b"));
    Due.says("rule 6: no throw in a constructor");
    Matcher made = Pattern.compile("(?s)public RefHeap\\(.*?\n  }").matcher(code);
    Due.holds("the constructor is found", made.find());
    Due.equal("throws in it", times(made.group(), "\\bthrow\\b"), 0);
  }

  private static void methodLines(String code) {
    Due.says("rule 11: methods stay short");
    Matcher body = Pattern.compile("(?s)\n( {2}| {4})(?=\\w)[^\n]*\\)[^;\n]*\\{\n.*?\n\\1}\n")
        .matcher(code);
    int found = 0;
    while (body.find()) {
      found++;
      Due.holds(body.group(), body.group().lines().count() <= MOST_METHOD_LINES);
    }
    Due.holds("methods are found", found >= 24);
  }

  private static List<Class<?>> classes() {
    List<Class<?>> all = new ArrayList<>();
    all.add(RefHeap.class);
    for (int n = 0; n < all.size(); n++) {
      all.addAll(List.of(all.get(n).getDeclaredClasses()));
    }
    return all;
  }

  private static void members(Class<?> one) {
    Due.says("rule 11: at most seven parameters");
    for (Method method : one.getDeclaredMethods()) {
      Due.holds(method.toString(), method.getParameterCount() <= MOST_PARAMETERS);
    }
    Due.says("rule 11: some twenty fields beside the constants");
    int fields = 0;
    for (Field field : one.getDeclaredFields()) {
      fields += Modifier.isStatic(field.getModifiers()) ? 0 : 1;
    }
    Due.holds(one + " has " + fields, fields <= MOST_FIELDS);
    Due.says("rule 5: static fields are constants of int, long, boolean, char or String");
    for (Field field : one.getDeclaredFields()) {
      boolean constant = Modifier.isFinal(field.getModifiers())
          && (field.getType().isPrimitive() || field.getType() == String.class);
      Due.holds(field.toString(), !Modifier.isStatic(field.getModifiers()) || constant);
    }
  }

  private static long times(String code, String pattern) {
    return Pattern.compile(pattern).matcher(code).results().count();
  }
}
