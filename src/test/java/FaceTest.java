import java.io.IOException;
import java.lang.reflect.Constructor;
import java.lang.reflect.Field;
import java.lang.reflect.Method;
import java.lang.reflect.Modifier;
import java.nio.file.Files;
import java.nio.file.Path;
import java.util.ArrayList;
import java.util.HashSet;
import java.util.List;
import java.util.Set;
import java.util.TreeSet;
import java.util.regex.Matcher;
import java.util.regex.Pattern;

/** The face of the document, and the rules of LANGUAGE.md that can be seen in the source. */
public final class FaceTest {
  private static final String[] FACE = {
      "int append(char)", "int tell(int,int,int)", "int untell(int,int,int)",
      "boolean holds(int,int,int,boolean)", "boolean isTold(int,int,int)",
      "int factOf(int,int,int,int)", "int ways(int,int,int)", "int would(int,int,int)",
      "int kin(int,int)", "int relationOf(int,int)", "int ranked(int)", "boolean isMutual(int)",
      "int rule(int,int,int,int)", "int drop(int)", "int ruleOf(int,int)", "int condition(int,int)",
      "boolean wouldLayer(int,int,int,int)", "int layers()", "int rounds(int)", "int fresh(int,int)",
      "int line(int,int,int)", "int ruleLine(int)", "char character(int)", "int run()",
      "int errorPosition()", "int refusal(boolean)", "int account(int)", "boolean isWell()",
      "double meanDepth()", "float toldShare()", "int undo()", "int save()", "int restore()"};
  private static final String[] BANNED = {"->", "::", "\\btry\\b", "\\bcatch\\b", "\\bfinally\\b",
      "\\bsynchronized\\b", "\\bassert\\b", "\\bvar\\b", "\\brecord\\b", "Exact\\b", "\\bprotected\\b",
      "\\bStringBuilder\\b", "\\bHash", "java\\.util\\.(?!NoSuchElementException;)", "java\\.io",
      "\\bSystem\\.(?!arraycopy)", "\\bObject\\b", "\\bwhile \\(true\\)", "\\bNaN\\b",
      "^  static \\{"};

  public static void main(String[] args) throws IOException {
    Check.part("the face");
    members();
    document(Files.readString(Path.of("src/main/java/KinFacts.java")),
        Files.readString(Path.of("../shared/DOC.md")));
    Check.part("the language");
    source(Files.readString(Path.of("src/main/java/KinFacts.java")));
    Check.part("rule 7: an index is looked at before it is used");
    indexes(Files.readString(Path.of("src/main/java/KinFacts.java")));
    Check.end();
  }

  private static void members() {
    Set<String> face = new TreeSet<>();
    Set<String> names = new HashSet<>();
    for (Method method : KinFacts.class.getDeclaredMethods()) {
      if (Modifier.isPublic(method.getModifiers())) {
        face.add(signature(method));
        names.add(method.getName());
      }
    }
    Check.due(new TreeSet<>(List.of(FACE)), () -> face);
    for (Method method : KinFacts.class.getDeclaredMethods()) {
      int modifiers = method.getModifiers();
      Check.due(true, () -> Modifier.isPublic(modifiers) || Modifier.isPrivate(modifiers));
      Check.due(true, () -> Modifier.isPublic(modifiers) || !names.contains(method.getName()));
    }
    for (Field field : KinFacts.class.getDeclaredFields()) {
      int modifiers = field.getModifiers();
      Check.due(true, () -> Modifier.isPrivate(modifiers));
      Check.due(true, () -> !Modifier.isStatic(modifiers) || Modifier.isFinal(modifiers));
    }
    Constructor<?>[] constructors = KinFacts.class.getDeclaredConstructors();
    Check.due(1, () -> constructors.length);
    Check.due(true, () -> Modifier.isFinal(KinFacts.class.getModifiers()));
    for (Class<?> inside : KinFacts.class.getDeclaredClasses()) {
      Check.due(true, () -> Modifier.isStatic(inside.getModifiers()));
      Check.due(false, () -> Modifier.isPublic(inside.getModifiers()));
      for (Method method : inside.getDeclaredMethods()) {
        Check.due(method.getName(), () -> names.contains(method.getName()) ? "" : method.getName());
        Check.due(true, () -> method.getParameterCount() <= 7);
      }
    }
    Check.due(true, () -> KinFacts.class.getDeclaredClasses().length <= 11);
  }

  /** Each line of the document's face stands in the source, with what it may throw. */
  private static void document(String source, String document) {
    String plain = source.replaceAll("\\s+", " ");
    int begin = document.indexOf("public final class KinFacts {");
    int lines = 0;
    for (String line : document.substring(begin, document.indexOf("```", begin)).split("\n")) {
      if (line.startsWith("    public ")) {
        String member = line.trim().replace(";", " {");
        Check.due(member, () -> plain.contains(member) ? member : "none");
        lines++;
      }
    }
    int members = lines;
    Check.due(FACE.length + 1, () -> members);
  }

  private static String signature(Method method) {
    List<String> types = new ArrayList<>();
    for (Class<?> type : method.getParameterTypes()) {
      types.add(type.getSimpleName());
    }
    return method.getReturnType().getSimpleName() + " " + method.getName()
        + "(" + String.join(",", types) + ")";
  }

  private static void source(String text) {
    String code = text.replaceAll("(?m)//.*$|/\\*\\*.*\\*/", "").replaceAll("\"[^\"]*\"", "\"\"");
    for (String banned : BANNED) {
      Matcher matcher = Pattern.compile(banned, Pattern.MULTILINE).matcher(code);
      Check.due("", () -> matcher.find() ? banned + " at " + matcher.start() : "");
    }
    String[] lines = text.split("\n");
    int since = 0;
    for (int at = 0; at < lines.length; at++) {
      if (lines[at].matches(" {2,4}[a-zA-Z].*\\{")) {
        since = at;
      }
      int length = at - since;
      if (lines[at].matches(" {2,4}\\}")) {
        String first = lines[since];
        Check.due(first, () -> length < 60 || first.contains(" class ") ? first : first + " is long");
      }
    }
    for (char sign : text.toCharArray()) {
      if (sign > 126 || sign < 32 && sign != '\n') {
        Check.due("plain signs", () -> "" + (int) sign);
      }
    }
  }

  private static void indexes(String text) {
    int inside = text.indexOf("private static final class");
    int used = 0;
    for (String method : text.substring(0, inside).split("(?m)^ {2}\\}$")) {
      used += lookedAt(method);
    }
    for (String method : text.substring(inside).split("(?m)^ {4}\\}$")) {
      used += lookedAt(method);
    }
    int found = used;
    Check.due(true, () -> found > 50);
  }

  /** Each variable of an index is compared, or asked for in a set, in the same method. */
  private static int lookedAt(String method) {
    int used = 0;
    Matcher index = Pattern.compile("\\w\\[([^\\]]+)\\]").matcher(method);
    while (index.find()) {
      Matcher name = Pattern.compile("\\b[a-z]\\w*").matcher(index.group(1));
      while (name.find()) {
        String it = name.group();
        String looked = "(?s).*(\\b" + it + "( \\+ 1)? (<|<=|>|>=) |\\.has\\(" + it + "\\)).*";
        Check.due("", () -> method.matches(looked) ? "" : it + " is not looked at in" + method);
        used++;
      }
    }
    return used;
  }
}
