import java.io.IOException;
import java.lang.reflect.Method;
import java.lang.reflect.Modifier;
import java.nio.charset.StandardCharsets;
import java.nio.file.DirectoryStream;
import java.nio.file.Files;
import java.nio.file.Path;
import java.util.ArrayList;
import java.util.List;
import java.util.regex.Matcher;
import java.util.regex.Pattern;

// What README.md says of the use and of the tests, done by its words alone.
public final class ReadmeTest extends Checks {
  private static final Path CLASS = Path.of("src/main/java/SnuffOfElsewhere.java");

  // The fenced blocks of a language under a heading, in their order.
  private static List<String> blocks(String readme, String heading, String language) {
    int from = readme.indexOf("\n## " + heading + "\n"), to = readme.indexOf("\n## ", from + 1);
    List<String> found = new ArrayList<>();
    if (from < 0) return found;
    String part = readme.substring(from, to < 0 ? readme.length() : to);
    Matcher block = Pattern.compile("(?s)\n```" + language + "\n(.*?)(?<=\n)```\n").matcher(part);
    while (block.find()) found.add(block.group(1));
    return found;
  }

  // What the commands print, told to a shell in a folder. Java may have words of its own to say beside it (of
  // JAVA_TOOL_OPTIONS, say), so what comes as an error is no part of it.
  private static String done(String commands, Path folder, Path temporary) throws Exception {
    ProcessBuilder shell = new ProcessBuilder("sh", "-ec", commands).directory(folder.toFile());
    shell.redirectError(ProcessBuilder.Redirect.INHERIT);
    shell.environment().put("TMPDIR", temporary.toString());
    Process process = shell.start();
    String printed = new String(process.getInputStream().readAllBytes(), StandardCharsets.UTF_8);
    int code = process.waitFor();
    if (code != 0) fails(commands + "ended with " + code + ":\n" + printed);
    return printed;
  }

  private static void use(String readme, Path temporary) throws Exception {
    List<String> program = blocks(readme, "Use", "java"), commands = blocks(readme, "Use", "sh"), prints = blocks(readme, "Use", "text");
    due("programs, commands, what it prints", 100 * program.size() + 10 * commands.size() + prints.size(), 111);
    if (program.size() + commands.size() + prints.size() != 3) return;
    Path folder = Files.createDirectory(temporary.resolve("use"));
    Files.copy(CLASS, folder.resolve(CLASS.getFileName()));
    Files.writeString(folder.resolve("Evening.java"), program.get(0));
    String printed = done(commands.get(0), folder, temporary);
    if (!printed.equals(prints.get(0))) fails("the program printed:\n" + printed + "and should print:\n" + prints.get(0));
  }

  // Each call stands in a table with its numbers, and nothing else does.
  private static void calls(String readme) {
    List<String> face = new ArrayList<>(), told = new ArrayList<>();
    for (Method m : SnuffOfElsewhere.class.getDeclaredMethods()) {
      if (Modifier.isPublic(m.getModifiers())) face.add(m.getName() + " of " + m.getParameterCount());
    }
    Matcher row = Pattern.compile("(?m)^\\| `(\\w+)\\(([^)]*)\\)` \\|").matcher(readme);
    while (row.find()) told.add(row.group(1) + " of " + (row.group(2).isEmpty() ? 0 : row.group(2).split(", ").length));
    for (String call : face) if (!told.contains(call)) fails("no table tells " + call);
    for (String call : told) if (!face.contains(call)) fails("a table tells " + call + ", and there is none");
    due("calls told", told.size(), face.size());
  }

  private static void tests(String readme, Path temporary) throws Exception {
    List<String> commands = blocks(readme, "Tests", "sh");
    due("ways to run tests", commands.size(), 2);
    if (commands.size() != 2) return;
    // the first one runs this test, too, so it is only looked for
    Path all = Path.of(commands.get(0).trim());
    if (!Files.isExecutable(all)) fails("nothing to run: " + all);
    String printed = done(commands.get(1), Path.of("."), temporary);
    if (!printed.contains("all answers are as due")) fails("one test alone printed:\n" + printed);
    try (DirectoryStream<Path> files = Files.newDirectoryStream(Path.of("tests"), "*.java")) {
      for (Path file : files) {
        String name = file.getFileName().toString().replace(".java", "");
        if (!readme.contains("`" + name + "`")) fails("no word of " + name);
      }
    }
  }

  private static void remove(Path path) throws IOException {
    if (Files.isDirectory(path)) {
      try (DirectoryStream<Path> files = Files.newDirectoryStream(path)) {
        for (Path file : files) remove(file);
      }
    }
    Files.delete(path);
  }

  public static void main(String[] args) throws Exception {
    String readme = Files.readString(Path.of("README.md"), StandardCharsets.UTF_8);
    Path temporary = Files.createTempDirectory("readme").toAbsolutePath();
    try {
      use(readme, temporary);
      calls(readme);
      tests(readme, temporary);
    } finally {
      remove(temporary);
    }
    end();
  }
}
