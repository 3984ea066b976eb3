import java.lang.reflect.Constructor;
import java.lang.reflect.Field;
import java.lang.reflect.Method;
import java.lang.reflect.Modifier;
import java.nio.file.Files;
import java.nio.file.Path;
import java.util.ArrayList;
import java.util.Arrays;
import java.util.List;
import java.util.Set;
import java.util.TreeSet;

/** What of LANGUAGE.md and of the public face can be seen by a program. */
public final class Language {
  private static int wrong = 0;

  private static void check(boolean good, String what) {
    if (!good) { wrong++; System.out.println("not so: " + what); }
  }

  private static final String FACE = "feed end fault text rule table cell rows row leaps beginnings best plain given without projected times "
      + "distinct tells behind has mean meanAs spread skew put take use order ways status undo log would step run perform most image back count";

  private static void face() {
    Class<?> c = LeapJoin.class;
    check(Modifier.isPublic(c.getModifiers()) && Modifier.isFinal(c.getModifiers()), "the class is public and final");
    Constructor<?>[] made = c.getDeclaredConstructors();
    check(made.length == 1 && Modifier.isPublic(made[0].getModifiers()) && made[0].getParameterCount() == 0, "one public constructor");
    Set<String> names = new TreeSet<>();
    for (Method m : c.getDeclaredMethods()) {
      if (m.isSynthetic()) continue;
      if (Modifier.isPublic(m.getModifiers())) check(names.add(m.getName()), m.getName() + " is public once");
      else check(Modifier.isPrivate(m.getModifiers()), m.getName() + " is private");
    }
    check(names.equals(new TreeSet<>(Arrays.asList(FACE.split(" ")))), "the public methods are those of the face");
    List<Class<?>> all = new ArrayList<>(Arrays.asList(c.getDeclaredClasses()));
    check(all.size() < 12, "some twelve classes");
    all.add(c);
    for (Class<?> k : all) {
      int fields = 0;
      check(k == c || Modifier.isStatic(k.getModifiers()) && Modifier.isPrivate(k.getModifiers()), k + " is static and private");
      for (Field f : k.getDeclaredFields()) {
        boolean isStatic = Modifier.isStatic(f.getModifiers());
        if (!isStatic) fields++;
        check(!isStatic || Modifier.isFinal(f.getModifiers()), f + " is final if static");
        if (k == c) check(Modifier.isPrivate(f.getModifiers()) || f.getName().equals("NONE") || f.getName().equals("HIDDEN"), f + " is private");
      }
      check(fields <= 20, k + " has some twenty fields");
      for (Method m : k.getDeclaredMethods()) {
        check(m.getParameterCount() <= 7, m + " takes at most seven");
        if (!Modifier.isPublic(m.getModifiers())) check(!names.contains(m.getName()), m + " bears no name of the face");
      }
    }
  }

  private static void source() throws Exception {
    String path = System.getProperty("leapjoin.source", "src/main/java/LeapJoin.java");
    String text = Files.readString(Path.of(path));
    String bare = text.replaceAll("(?s)/\\*.*?\\*/", "").replaceAll("//[^\n]*", "").replaceAll("\"[^\"\n]*\"", "\"\"");
    for (int i = 0; i < text.length(); i++) check(text.charAt(i) < 127 && (text.charAt(i) >= 32 || text.charAt(i) == '\n'), "sign " + i + " is plain");
    for (String line : text.split("\n")) check(!line.startsWith("import ") || line.equals("import java.util.Arrays;") || line.equals("import java.util.NoSuchElementException;"), line);
    for (String word : "package synchronized assert finally catch try var Object Double Float Random System.out System.in Thread exit hashCode equals toString instanceof goto strictfp native transient volatile".split(" "))
      check(!bare.matches("(?s).*(?<![\\w.])" + word.replace(".", "\\.") + "(?!\\w).*"), "no " + word);
    for (String sign : new String[] {"->", "::", "@", "Exact"}) check(!bare.contains(sign), "no " + sign);
    String[] lines = text.split("\n");
    int from = -1;
    String indent = "";
    for (int i = 0; i < lines.length; i++) {
      String s = lines[i];
      if (s.matches(" {4,8}[\\w<>\\[\\], ]+\\(.*") && !s.trim().startsWith("return") && (s.endsWith("{") || lines[i + 1].endsWith("{")) && from < 0) {
        from = i;
        indent = s.substring(0, s.length() - s.stripLeading().length());
      } else if (from >= 0 && s.equals(indent + "}")) {
        check(i - from < 60, "short: " + lines[from].trim());
        from = -1;
      }
    }
  }

  public static void main(String[] args) throws Exception {
    face();
    source();
    System.out.println(wrong == 0 ? "the language is kept to" : wrong + " rules are not kept to");
    if (wrong != 0) System.exit(1);
  }
}
