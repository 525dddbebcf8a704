import java.io.IOException;
import java.lang.reflect.Constructor;
import java.lang.reflect.Field;
import java.lang.reflect.Method;
import java.lang.reflect.Modifier;
import java.nio.file.Files;
import java.nio.file.Path;
import java.util.Arrays;
import java.util.List;
import java.util.Set;
import java.util.TreeSet;
import java.util.regex.Matcher;
import java.util.regex.Pattern;

/** The face is the document's and no more, and the source keeps to those rules of LANGUAGE.md that a scan can see. */
public final class FaceTest {
    private static final String[] FACE = {
        "int feed(int,int,int,int,int)", "int yard(int)", "int fault()", "int count(int)", "int wall(int,int)",
        "int cell(int,int,int,int)", "int layer(int,int,int)", "int lift(int,int)", "int down(int)", "void hollow(int,int,int)",
        "int weeks(int,int)", "int high(int)", "int when(int,int)", "int plan(int,int)", "int planned(int)",
        "int turned(int,int,int,int)", "int line(int,int,int)", "void work(int,int)", "int order(int,int)", "int ordered(int)",
        "int brick(int,boolean)", "int mix(int)", "int house(int,int,int)", "int first(int,int)", "void guess(int,int)",
        "int stick(int,int,int,int)", "int credit(int)", "int where()", "void image()", "boolean restore()"};

    private static final String[] FORBIDDEN = {"->", "::", "\\bcatch\\b", "\\btry\\b", "\\bfinally\\b", "\\bsynchronized\\b", "\\bassert\\b",
        "\\bInteger\\.MAX", "\\bMath\\.\\w+Exact", "\\bSystem\\.(?!arraycopy)", "\\bString\\.", "\\bdouble\\b", "\\bfloat\\b", "\\bpackage\\b",
        "\\bimport (?!java\\.util\\.NoSuchElementException;)", "\\bprotected\\b", "while \\(true\\)", "for \\(;;\\)", "\\bObject\\b", "\\bstatic \\{"};

    private final Check check = new Check();

    public static void main(String[] args) throws IOException {
        FaceTest test = new FaceTest();
        test.face();
        test.insides();
        test.source(Files.readString(Path.of("src/main/java/MudWalls.java")));
        test.check.end();
    }

    private void holds(String what, boolean so) {
        check.same(what, 1, so ? 1 : 0);
    }

    private void face() {
        Set<String> want = new TreeSet<>(Arrays.asList(FACE));
        Set<String> got = new TreeSet<>();
        for (Method m : MudWalls.class.getDeclaredMethods()) {
            if (!Modifier.isPrivate(m.getModifiers())) {
                holds("public, not static: " + m, m.getModifiers() == Modifier.PUBLIC);
                StringBuilder b = new StringBuilder(m.getReturnType() + " " + m.getName() + "(");
                for (Class<?> c : m.getParameterTypes()) {
                    b.append(b.charAt(b.length() - 1) == '(' ? "" : ",").append(c);
                }
                got.add(b + ")");
            }
        }
        holds("the face: " + want + " is " + got, want.equals(got));
        Constructor<?>[] makers = MudWalls.class.getDeclaredConstructors();
        holds("one constructor", makers.length == 1 && makers[0].getModifiers() == Modifier.PUBLIC && makers[0].getParameterCount() == 0);
        for (Field f : MudWalls.class.getDeclaredFields()) {
            holds("private: " + f, f.getName().equals("NONE") || Modifier.isPrivate(f.getModifiers()));
        }
        holds("public and final", MudWalls.class.getModifiers() == (Modifier.PUBLIC | Modifier.FINAL));
    }

    private void insides() {
        List<Class<?>> all = new java.util.ArrayList<>(Arrays.asList(MudWalls.class.getDeclaredClasses()));
        holds("at most twelve classes", all.size() + 1 <= 12);
        all.add(MudWalls.class);
        Set<String> names = new TreeSet<>();
        for (String f : FACE) {
            names.add(f.substring(f.indexOf(' ') + 1, f.indexOf('(')));
        }
        for (Class<?> c : all) {
            int fields = 0;
            for (Field f : c.getDeclaredFields()) {
                holds("static is final: " + f, !Modifier.isStatic(f.getModifiers()) || Modifier.isFinal(f.getModifiers()));
                fields += Modifier.isStatic(f.getModifiers()) ? 0 : 1;
            }
            holds("at most twenty fields: " + c, fields <= 20);
            for (Method m : c.getDeclaredMethods()) {
                holds("at most seven parameters: " + m, m.getParameterCount() <= 7);
                boolean inFace = c == MudWalls.class && Modifier.isPublic(m.getModifiers());
                holds("no name of the face within: " + m, inFace || !names.contains(m.getName()));
            }
        }
    }

    private void source(String source) {
        String code = source.replaceAll("(?s)/\\*.*?\\*/", "").replaceAll("//[^\n]*", "").replaceAll("\"[^\"\n]*\"", "\"\"");
        for (String pattern : FORBIDDEN) {
            Matcher m = Pattern.compile(pattern).matcher(code);
            holds("nothing like " + pattern, !m.find());
        }
        for (int i = 0; i < source.length(); i++) {
            holds("plain signs at " + i, source.charAt(i) < 128);
        }
        int begun = 0;
        int lines = 0;
        for (String line : source.split("\n")) {
            lines++;
            if (line.matches(" {4}(?! ).*\\{") || line.matches(" {8}(?! ).*\\) \\{")) {
                begun = lines;
            }
            if (line.matches(" {4}\\}") || line.matches(" {8}\\}")) {
                holds("some sixty lines from " + begun, line.matches(" {4}\\}") || lines - begun <= 60);
            }
        }
    }
}
