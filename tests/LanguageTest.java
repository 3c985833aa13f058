import java.lang.reflect.Constructor;
import java.lang.reflect.Field;
import java.lang.reflect.Method;
import java.lang.reflect.Modifier;
import java.nio.file.Files;
import java.nio.file.Path;
import java.util.Arrays;
import java.util.HashSet;
import java.util.Set;
import java.util.TreeSet;
import java.util.regex.Matcher;
import java.util.regex.Pattern;

// What of ../shared/LANGUAGE.md a look at the class and at its source can tell.
public final class LanguageTest {
  private static final String[] FACE = {
    "int count(int)", "int clock(int)", "int feed(int,int,int,int,int,int)", "int text()", "int force(int)",
    "int asks(int,int,int)", "int gentleman(int,int)", "int put(int,int,int)", "int told(int,int)",
    "int pinches(int,int,int)", "int pinch(int,int)", "int give(int,int,int)", "int minute()", "int room(int)",
    "int evening(int,int)", "int spend(int)", "int plan(int,int,int)", "int which(int,int)", "int tour(int,int)",
    "int share(int,int)", "long box(int,int)", "int judge(int,int,int)", "int kinds(int,int,int,int)",
    "int states(int,int,int,int,int)", "int whose(int,int)", "int laws(int,int,int)", "int film(int,int,int)",
    "int drawn(int,int,int)", "long odds(int,int,int,int)", "int image()", "int back()", "int sheet(int,int,int)",
    "int cell(int,int,int)", "int copy(int,int,int,int,int)", "int setBy(int,int,int,int)", "int taken(int,int)"};
  private static int wrong = 0;

  private static void must(boolean ok, String what) {
    if (!ok) { wrong++; System.out.println("not kept: " + what); }
  }

  private static String sign(Method m) {
    StringBuilder b = new StringBuilder(m.getReturnType().getName()).append(' ').append(m.getName()).append('(');
    for (Class<?> c : m.getParameterTypes()) b.append(b.charAt(b.length() - 1) == '(' ? "" : ",").append(c.getName());
    return b.append(')').toString();
  }

  private static void face() {
    Class<?> c = SnuffOfElsewhere.class;
    must(Modifier.isPublic(c.getModifiers()) && Modifier.isFinal(c.getModifiers()), "public and final");
    Set<String> open = new TreeSet<>(), names = new HashSet<>();
    for (Method m : c.getDeclaredMethods()) {
      if (Modifier.isPrivate(m.getModifiers()) || m.isSynthetic()) continue;
      must(Modifier.isPublic(m.getModifiers()) && !Modifier.isStatic(m.getModifiers()), "public: " + m);
      open.add(sign(m));
      names.add(m.getName());
    }
    must(open.equals(new TreeSet<>(Arrays.asList(FACE))), "the face: " + open);
    Constructor<?>[] makers = c.getDeclaredConstructors();
    must(makers.length == 1 && Modifier.isPublic(makers[0].getModifiers()) && makers[0].getParameterCount() == 0, "the constructor");
    Set<String> constants = new TreeSet<>();
    for (Field f : c.getDeclaredFields()) {
      if (!Modifier.isPrivate(f.getModifiers())) constants.add(f.getName());
    }
    must(constants.equals(new TreeSet<>(Arrays.asList("NONE", "BAD", "STATE", "FULL", "NO"))), "the constants: " + constants);
    inside(c, names);
  }

  private static void inside(Class<?> c, Set<String> names) {
    Class<?>[] all = c.getDeclaredClasses();
    must(all.length < 12, "at most twelve classes");
    fields(c);
    privates(c, names);
    for (Class<?> in : all) {
      must(Modifier.isStatic(in.getModifiers()) && !Modifier.isPublic(in.getModifiers()), "static, not public: " + in);
      fields(in);
      privates(in, names);
    }
  }

  private static void fields(Class<?> c) {
    int own = 0;
    for (Field f : c.getDeclaredFields()) {
      if (Modifier.isStatic(f.getModifiers())) {
        must(Modifier.isFinal(f.getModifiers()), "final: " + f);
        must(f.getType().isPrimitive() || f.getType() == String.class, "a constant: " + f);
      } else {
        own++;
      }
    }
    must(own <= 20, "at most twenty fields: " + c);
  }

  private static void privates(Class<?> c, Set<String> names) {
    for (Method m : c.getDeclaredMethods()) {
      if (Modifier.isPublic(m.getModifiers())) continue;
      must(!names.contains(m.getName()), "no name of a public one: " + m);
      must(m.getParameterCount() <= 7, "seven parameters: " + m);
    }
  }

  private static void source() throws Exception {
    Path path = Path.of("src/main/java/SnuffOfElsewhere.java");
    must(Files.exists(path), "run where " + path + " is");
    String all = Files.readString(path, java.nio.charset.StandardCharsets.ISO_8859_1);
    for (char ch : all.toCharArray()) must(ch == '\n' || ch >= 32 && ch < 127, "sign " + (int) ch);
    String code = all.replaceAll("//[^\n]*|(?s)/\\*.*?\\*/", "").replaceAll("\"[^\"\n]*\"", "TEXT").replaceAll("'[^'\n]+'", "SIGN");
    for (String word : new String[] {"throw", "throws", "try", "catch", "finally", "synchronized", "assert", "package", "import",
        "native", "volatile", "transient", "Object", "Thread", "Runtime", "Exception", "Error", "protected", "var", "float", "double"}) {
      must(!Pattern.compile("\\b" + word + "\\b").matcher(code).find(), "no " + word);
    }
    for (String sign : new String[] {"->", "::", "@", "{{", "TEXT +", "+ TEXT"}) must(!code.contains(sign), "no " + sign);
    Matcher system = Pattern.compile("\\b(System|Math|Integer|Arrays|Long)\\.(\\w+)").matcher(code);
    Set<String> may = new HashSet<>(Arrays.asList("System.arraycopy", "Math.max", "Math.min", "Integer.bitCount"));
    while (system.find()) must(may.contains(system.group()), system.group());
    lengths(code);
  }

  // A method begins where a line of four or eight blanks ends with ") {" and ends with a brace as far in.
  private static void lengths(String code) {
    String[] lines = code.split("\n");
    for (int i = 0; i < lines.length; i++) {
      Matcher head = Pattern.compile("^( {4}| {8})(?=\\S)[\\w\\[\\]<> ]+\\([^;]*\\) \\{$").matcher(lines[i]);
      if (!head.find() || lines[i].trim().matches("(for|if|while|switch|else|do)\\b.*")) continue;
      int end = i;
      while (end < lines.length && !lines[end].equals(head.group(1) + "}")) end++;
      must(end - i < 60, "sixty lines: " + lines[i].trim());
    }
  }

  public static void main(String[] args) throws Exception {
    face();
    source();
    System.out.println(wrong == 0 ? "the language is kept" : wrong + " rules are not kept");
    if (wrong != 0) System.exit(1);
  }
}
