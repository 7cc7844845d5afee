import java.lang.reflect.Constructor;
import java.lang.reflect.Field;
import java.lang.reflect.Method;
import java.lang.reflect.Modifier;
import java.nio.file.Files;
import java.nio.file.Path;
import java.util.ArrayList;
import java.util.List;
import java.util.TreeSet;
import java.util.regex.Matcher;
import java.util.regex.Pattern;

// The class has the document's face and no other, and its source keeps to what LANGUAGE.md leaves.
public final class FaceTest {
    private static final String FACE = "int horse(int,int,int) int set(int,int,int) int pound(int,int)"
            + " long form(int,int,int) int told(int,int) long wins(int,int,int,int) long comes(int,int,int,int)"
            + " long worse(int,int,int,int,int) long even(int,int,int) long near(int,int,int) int lay(int,int)"
            + " int feed(int,long) int text() int force(int) int race(int,int,int) int raceTold(int,int)"
            + " int against(int,int) int learnt(int) int pair(int,int,int) long holding(int,int,int,int,int)"
            + " int yards(int,int,int) int season(int,int,int,int,int) int image() int back() int count(int)"
            + " int sheet(int,int,int) int cell(int,int,int) int copy(int,int,int,int,int)"
            + " int horses(int,int,int,int) int taken(int,int)";
    private static int wrong = 0;

    private static void due(String what, boolean so) {
        if (!so) {
            wrong++;
            System.out.println("not so: " + what);
        }
    }

    public static void main(String[] args) throws Exception {
        members();
        inside();
        source();
        System.out.println(wrong == 0 ? "the face and the source are as due" : wrong + " things are not as due");
        if (wrong != 0) {
            System.exit(1);
        }
    }

    private static void members() {
        Class<?> c = AtThePost.class;
        due("public and final", Modifier.isPublic(c.getModifiers()) && Modifier.isFinal(c.getModifiers()));
        due("under Object alone", c.getSuperclass() == Object.class && c.getInterfaces().length == 0);
        Constructor<?>[] made = c.getDeclaredConstructors();
        due("one public constructor", made.length == 1 && made[0].getParameterCount() == 0
                && Modifier.isPublic(made[0].getModifiers()));
        TreeSet<String> want = new TreeSet<>(List.of(FACE.replaceAll(" (?=int |long )", "\n").split("\n")));
        TreeSet<String> got = new TreeSet<>();
        TreeSet<String> names = new TreeSet<>();
        for (Method m : c.getDeclaredMethods()) {
            if (Modifier.isPublic(m.getModifiers())) {
                got.add(signature(m));
                names.add(m.getName());
                due(m.getName() + " belongs to an object", !Modifier.isStatic(m.getModifiers()));
            }
        }
        due("the methods of the document: " + got, got.equals(want));
        for (Method m : c.getDeclaredMethods()) {
            boolean isPublic = Modifier.isPublic(m.getModifiers());
            due(m.getName() + " is public or private", isPublic || Modifier.isPrivate(m.getModifiers()));
            due(m.getName() + " bears no public name", isPublic || !names.contains(m.getName()));
        }
        TreeSet<String> constants = new TreeSet<>();
        for (Field f : c.getDeclaredFields()) {
            if (!Modifier.isPrivate(f.getModifiers())) {
                constants.add(Modifier.toString(f.getModifiers()) + " " + f.getType() + " " + f.getName());
            }
        }
        due("the constants of the document: " + constants, constants.equals(new TreeSet<>(List.of(
                "public static final int NONE", "public static final int BAD", "public static final int STATE",
                "public static final int FULL", "public static final long NO"))));
        due("their values", AtThePost.NONE == -1 && AtThePost.BAD == -2 && AtThePost.STATE == -3
                && AtThePost.FULL == -4 && AtThePost.NO == -(1L << 62));
    }

    private static String signature(Method m) {
        List<String> types = new ArrayList<>();
        for (Class<?> t : m.getParameterTypes()) {
            types.add(t.getName());
        }
        return m.getReturnType().getName() + " " + m.getName() + "(" + String.join(",", types) + ")";
    }

    private static void inside() {
        List<Class<?>> all = new ArrayList<>(List.of(AtThePost.class.getDeclaredClasses()));
        due("some twelve classes", all.size() + 1 <= 12);
        all.add(AtThePost.class);
        for (Class<?> c : all) {
            int fields = 0;
            for (Field f : c.getDeclaredFields()) {
                boolean isStatic = Modifier.isStatic(f.getModifiers());
                due(c + " " + f.getName() + " is final, if static", !isStatic || Modifier.isFinal(f.getModifiers()));
                fields += isStatic ? 0 : 1;
            }
            due(c + " has some twenty fields: " + fields, fields <= 20);
            for (Method m : c.getDeclaredMethods()) {
                due(m + " takes at most seven", m.getParameterCount() <= 7);
            }
            due(c + " is static, if inside", c == AtThePost.class || Modifier.isStatic(c.getModifiers()));
        }
    }

    private static void source() throws Exception {
        String text = Files.readString(Path.of("src/main/java/AtThePost.java"));
        String bare = text.replaceAll("(?s)/\\*.*?\\*/", "").replaceAll("//[^\n]*", "").replaceAll("\"[^\"\n]*\"", "\"\"");
        for (String word : new String[] {"throw", "throws", "try", "catch", "finally", "synchronized", "assert",
            "package", "Object", "Exception", "hashCode", "toString", "var", "volatile", "native"}) {
            due("no " + word, !Pattern.compile("\\b" + word + "\\b").matcher(bare).find());
        }
        due("no lambda, no method reference", !bare.contains("->") && !bare.contains("::"));
        due("no function whose name ends in Exact", !bare.contains("Exact("));
        TreeSet<String> imports = new TreeSet<>();
        Matcher line = Pattern.compile("(?m)^import (.*);$").matcher(text);
        while (line.find()) {
            imports.add(line.group(1));
        }
        due("imports Arrays alone: " + imports, imports.equals(new TreeSet<>(List.of("java.util.Arrays"))));
        TreeSet<String> calls = new TreeSet<>();
        Matcher call = Pattern.compile("\\b((?:Arrays|Math|Integer|Long|System|String|Character)\\.\\w+)").matcher(bare);
        while (call.find()) {
            calls.add(call.group(1));
        }
        calls.removeAll(List.of("Arrays.fill", "Arrays.copyOf", "Math.max", "Math.min", "Math.abs", "Integer.bitCount",
                "System.arraycopy"));
        due("no other library: " + calls, calls.isEmpty());
        due("signs 10 and 32 to 126 alone", text.matches("[\\n\\x20-\\x7e]*"));
        int length = 0;
        for (String row : text.split("\n")) {
            length = row.matches("    (    )?}") ? 0 : length + 1;
            due("a method of at most sixty lines, at " + row, length <= 70);
        }
    }
}
