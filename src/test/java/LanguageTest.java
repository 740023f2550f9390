import java.io.IOException;
import java.lang.reflect.Constructor;
import java.lang.reflect.Field;
import java.lang.reflect.Method;
import java.lang.reflect.Modifier;
import java.nio.file.Files;
import java.nio.file.Path;
import java.util.Arrays;
import java.util.List;
import java.util.TreeSet;
import java.util.regex.Matcher;
import java.util.regex.Pattern;

/** The face of the document, and those rules of LANGUAGE.md that can be read off the file. */
public final class LanguageTest {
  private static final String[] FACE = {
    "int feed(int,int,int,int,int)", "int land(int) IllegalArgumentException", "int law(int) IllegalArgumentException",
    "int work(int) IllegalArgumentException", "int book(int) IllegalArgumentException", "int fault()", "int undo()",
    "int told(int) IllegalArgumentException", "int place(int,int) NoSuchElementException,IllegalArgumentException",
    "int ditch(int,int) NoSuchElementException,IllegalArgumentException", "int person(int,int) NoSuchElementException,IllegalArgumentException",
    "int belief(int,int) NoSuchElementException", "int pull(int,int) NoSuchElementException",
    "int would(int,int,int,int,int,int,int,int,int) IllegalArgumentException", "int course(int) IllegalArgumentException",
    "int ahead(int,int) IllegalArgumentException", "int stays()", "int tellings(int,int,int) NoSuchElementException,IllegalArgumentException",
    "int silence(int) NoSuchElementException", "int who(int) IllegalArgumentException", "int look(int) IllegalArgumentException",
    "int digs(int,int) NoSuchElementException", "int way(int,int) NoSuchElementException",
    "int meet(int,int,int) NoSuchElementException,IllegalArgumentException", "int sight()", "long seen(int,int,int) IllegalArgumentException",
    "int leaders(int,int) IllegalArgumentException", "int share(int,int,int) NoSuchElementException,IllegalArgumentException",
    "int right(int,int) NoSuchElementException,IllegalArgumentException", "int blank(int) IllegalArgumentException", "int uphill()",
    "int year(int,int,int,int) IllegalArgumentException", "int span(int,int,int,int,int,int) IllegalArgumentException", "int image()",
    "int restore()", "int status(int)", "int count(int)"};
  private static final Path DOCUMENT = Path.of("../shared/DOC.md");

  /** The calls of the document's face, each as "type name(types) exceptions". */
  private static TreeSet<String> calls() throws IOException {
    String all = Files.readString(DOCUMENT);
    String face = all.substring(all.indexOf("public final class BeliefRiver {"), all.indexOf("## Terms"));
    TreeSet<String> calls = new TreeSet<>();
    Matcher line = Pattern.compile("public (\\w+ \\w+)\\(([^)]*)\\)(?: throws ([^;]*))?;").matcher(face);
    while (line.find()) {
      String types = line.group(2).replaceAll("(\\w+) \\w+", "$1").replace(", ", ",");
      calls.add(line.group(1) + "(" + types + ")" + (line.group(3) == null ? "" : " " + line.group(3).replace(", ", ",")));
    }
    return calls;
  }

  private static void faceIsTheDocuments() throws IOException {
    TreeSet<String> due = calls();
    for (String f : FACE) Due.is("in the document: " + f, due.remove(f) ? 1 : 0, 1);
    Due.is("in the document, but not here: " + due, due.size(), 0);
  }

  private static void face() {
    Class<BeliefRiver> c = BeliefRiver.class;
    Due.is("public and final", c.getModifiers() & (Modifier.PUBLIC | Modifier.FINAL), Modifier.PUBLIC | Modifier.FINAL);
    TreeSet<String> due = new TreeSet<>(Arrays.asList(FACE));
    TreeSet<String> names = new TreeSet<>();
    for (String f : FACE) names.add(f.substring(f.indexOf(' ') + 1, f.indexOf('(')));
    for (Method m : c.getDeclaredMethods()) {
      StringBuilder s = new StringBuilder(m.getReturnType().getName()).append(' ').append(m.getName()).append('(');
      for (Class<?> p : m.getParameterTypes()) s.append(s.charAt(s.length() - 1) == '(' ? "" : ",").append(p.getName());
      s.append(')');
      for (Class<?> e : m.getExceptionTypes()) s.append(s.charAt(s.length() - 1) == ')' ? " " : ",").append(e.getSimpleName());
      String text = s.toString();
      if (Modifier.isPublic(m.getModifiers())) Due.is("of the face: " + text, due.remove(text) ? 1 : 0, 1);
      else Due.is("private and of another name: " + text, Modifier.isPrivate(m.getModifiers()) && !names.contains(m.getName()) ? 1 : 0, 1);
    }
    Due.is("methods not there: " + due, due.size(), 0);
    for (Field f : c.getDeclaredFields()) {
      boolean fits = f.getName().equals("NONE") ? Modifier.isPublic(f.getModifiers()) : Modifier.isPrivate(f.getModifiers());
      Due.is("field " + f.getName(), fits && (!Modifier.isStatic(f.getModifiers()) || Modifier.isFinal(f.getModifiers())) ? 1 : 0, 1);
    }
    Constructor<?>[] constructors = c.getDeclaredConstructors();
    Due.is("one constructor", constructors.length == 1 && constructors[0].getParameterCount() == 0 ? 1 : 0, 1);
    Due.is("some twelve classes", c.getDeclaredClasses().length <= 12 ? 1 : 0, 1);
    for (Class<?> inner : c.getDeclaredClasses()) inside(inner, names);
  }

  private static void inside(Class<?> inner, TreeSet<String> names) {
    Due.is("static: " + inner, Modifier.isStatic(inner.getModifiers()) ? 1 : 0, 1);
    int own = 0;
    for (Field f : inner.getDeclaredFields()) if (!Modifier.isStatic(f.getModifiers())) own++;
    Due.is("some twenty fields: " + inner, own <= 20 ? 1 : 0, 1);
    for (Method m : inner.getDeclaredMethods()) {
      Due.is("not a name of the face: " + m, names.contains(m.getName()) ? 1 : 0, 0);
      Due.is("seven parameters: " + m, m.getParameterCount() <= 7 ? 1 : 0, 1);
    }
  }

  private static void source() throws IOException {
    String text = Files.readString(Path.of("src/main/java/BeliefRiver.java"));
    for (char c : text.toCharArray()) if (c > 126 || c < 32 && c != '\n') Due.is("a sign of the file", c, 0);
    String code = text.replaceAll("(?s)/\\*.*?\\*/", "").replaceAll("//[^\n]*", "");
    String[] never = {"->", "::", "try {", "try (", "catch", "finally", "synchronized", "assert", "static {", "package", "double", "float", "instanceof",
        "Exact(", "hashCode", "toString", "String.format", "\" +", "+ \"", "new Random", "System.currentTime", "System.nano", "Thread", "@",
        "protected", "[][][]", "var ", "yield", "sealed", "record ", "interface "};
    for (String n : never) Due.is("never in the file: " + n, code.contains(n) ? 1 : 0, 0);
    Matcher imports = Pattern.compile("import ([^;]*);").matcher(code);
    while (imports.find()) Due.is("import " + imports.group(1), imports.group(1).equals("java.util.NoSuchElementException") ? 1 : 0, 1);
    Matcher thrown = Pattern.compile("throw new (\\w+)\\(").matcher(code);
    while (thrown.find()) Due.is("throw " + thrown.group(1), List.of("NoSuchElementException", "IllegalArgumentException").contains(thrown.group(1)) ? 1 : 0, 1);
    Matcher calls = Pattern.compile("\\b(System|Math|Integer|Long|Arrays|Character|String)\\.(\\w+)").matcher(code);
    while (calls.find()) {
      Due.is("of the library: " + calls.group(), List.of("System.arraycopy", "Math.min", "Math.max", "Integer.bitCount").contains(calls.group()) ? 1 : 0, 1);
    }
    methodsAreShort(code);
  }

  private static void methodsAreShort(String code) {
    int lines = 0;
    boolean inside = false;
    for (String line : code.split("\n")) {
      if (line.matches(" {4,8}(public |private |static |final )*[\\w\\[\\]]+ ?[\\w]*\\(.*") && !line.trim().endsWith(";")) {
        inside = true;
        lines = 0;
      }
      if (inside) lines++;
      if (line.equals("    }") || line.equals("        }")) {
        Due.is("some sixty lines before " + line, lines <= 60 ? 1 : 0, 1);
        inside = false;
      }
    }
  }

  public static void main(String[] args) throws Exception {
    if (Files.exists(DOCUMENT)) faceIsTheDocuments();
    else System.out.println("no " + DOCUMENT + " here: the face was held against the one written down in this test");
    face();
    source();
    Due.end("LanguageTest");
  }
}
