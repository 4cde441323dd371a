import java.io.IOException;
import java.lang.reflect.Method;
import java.lang.reflect.Modifier;
import java.nio.file.Files;
import java.nio.file.Path;
import java.util.regex.Matcher;
import java.util.regex.Pattern;

/** Prints a program that runs the examples of README.md and compares each answer told there. */
final class ReadmeSource {
  private static final Pattern NAMED = Pattern.compile("\\s*(?:int|String) (\\w+) = .*;\\s*// (.*)");
  private static final Pattern CALL = Pattern.compile("\\s*(\\w.*\\));\\s*// (.*)");

  private ReadmeSource() {
  }

  public static void main(String[] args) throws IOException {
    StringBuilder body = new StringBuilder();
    boolean isCode = false;
    int number = 0;
    for (String line : Files.readAllLines(Path.of(args[0]))) {
      number++;
      if (line.startsWith("```")) {
        isCode = line.equals("```java");
      } else if (isCode) {
        body.append("    Check.part(\"README.md:").append(number).append("\");\n");
        body.append(checked(line));
      }
    }
    body.append(missing(body.toString()));
    System.out.print("final class ReadmeRun {\n  public static void main(String[] args) {\n" + body
        + "    Check.end();\n  }\n}\n");
  }

  private static String checked(String line) {
    Matcher named = NAMED.matcher(line);
    if (named.matches()) {
      return "    " + line + "\n" + due(named.group(2), named.group(1));
    }
    Matcher call = CALL.matcher(line);
    return call.matches() ? due(call.group(2), call.group(1)) : "    " + line + "\n";
  }

  /** Each answer ends where its explanation begins. */
  private static String due(String told, String call) {
    String answer = told.split(": ")[0].trim();
    String plain = answer.replaceAll("^throws |^['\"]|['\"]$", "");
    return "    Check.due(\"" + plain + "\", () -> String.valueOf(" + call + "));\n";
  }

  private static String missing(String body) {
    StringBuilder dues = new StringBuilder();
    for (Method method : KinFacts.class.getDeclaredMethods()) {
      String name = method.getName();
      if (Modifier.isPublic(method.getModifiers()) && !body.contains("kin." + name + "(")) {
        dues.append("    Check.due(\"an example of ").append(name).append("\", () -> \"none\");\n");
      }
    }
    return dues.toString();
  }
}
