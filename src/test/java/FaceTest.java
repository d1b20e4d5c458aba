import java.lang.reflect.Constructor;
import java.lang.reflect.Field;
import java.lang.reflect.Method;
import java.lang.reflect.Modifier;
import java.nio.file.Files;
import java.nio.file.Path;
import java.util.Arrays;
import java.util.Set;
import java.util.TreeSet;
import java.util.regex.Matcher;
import java.util.regex.Pattern;

/** The face is the document's and no more, and the source keeps to those rules of LANGUAGE.md that a text shows. */
public final class FaceTest {
    private static final Kit KIT = new Kit("FaceTest");
    private static final String[] FACE = {
        "int feed(long,long,long)", "int yard()", "int session()", "int act(int,int)", "int carver(int,int)", "int force()",
        "int side(int)", "boolean begin(int,int)", "int carve(int,int)", "int prop(int)", "int torch(int)", "int night()",
        "boolean undo()", "int judged(int)", "int falls(int)", "int clashes()", "int mend(int)", "int work(int,int)",
        "int places(int)", "int thin(int,int,int)", "int stands(int,int)", "int propped(int)", "boolean tell(int,int)",
        "int sets(int)", "int look()", "int rests(int,int,int,int)", "int decades(int,int,int)", "boolean mark(int,boolean)",
        "int count(int)"};
    private static final String[] FORBIDDEN = {
        "->", "::", "\\bcatch\\b", "\\btry\\b", "\\bfinally\\b", "\\bsynchronized\\b", "\\bassert\\b", "\\bdouble\\b", "\\bfloat\\b",
        "\\bSystem\\.(?!arraycopy)", "\\bRandom\\b", "\\bThread\\b", "\\bprotected\\b", "\\bnull\\b", "\\binterface\\b", "Exact\\(",
        "\\bnative\\b", "\\bvolatile\\b", "\\btransient\\b", "\\bequals\\b", "\\bhashCode\\b", "\\btoString\\b", "^\\s*package\\b",
        "static \\{"};

    public static void main(String[] args) throws Exception {
        face();
        String source = Files.readString(Path.of(System.getProperty("source", "src/main/java/IceParliament.java")));
        words(source);
        methods(source);
        privateNames(source);
        KIT.finish();
    }

    private static void face() throws Exception {
        Class<?> c = IceParliament.class;
        KIT.due("public and final", Modifier.isPublic(c.getModifiers()) && Modifier.isFinal(c.getModifiers()), true);
        Set<String> due = new TreeSet<>(Arrays.asList(FACE));
        Set<String> got = new TreeSet<>();
        for (Method m : c.getDeclaredMethods()) {
            if (!Modifier.isPrivate(m.getModifiers())) {
                StringBuilder text = new StringBuilder(m.getReturnType() + " " + m.getName() + "(");
                for (Class<?> p : m.getParameterTypes()) {
                    text.append(text.charAt(text.length() - 1) == '(' ? "" : ",").append(p);
                }
                got.add(text + ")");
                KIT.due(m.getName() + " is public", Modifier.isPublic(m.getModifiers()), true);
            }
        }
        KIT.due("the methods " + got, got.equals(due), true);
        for (Field f : c.getDeclaredFields()) {
            boolean none = f.getName().equals("NONE");
            KIT.due("field " + f.getName() + " is private", Modifier.isPrivate(f.getModifiers()), !none);
            KIT.due("field " + f.getName() + " is no static state",
                !Modifier.isStatic(f.getModifiers()) || Modifier.isFinal(f.getModifiers()), true);
        }
        KIT.due("NONE", IceParliament.NONE, -1);
        Constructor<?>[] made = c.getDeclaredConstructors();
        KIT.due("one constructor", made.length, 1);
        KIT.due("it is public and takes nothing", Modifier.isPublic(made[0].getModifiers()) && made[0].getParameterCount() == 0, true);
        KIT.due("twelve classes at most", c.getDeclaredClasses().length <= 11, true);
        for (Class<?> inside : c.getDeclaredClasses()) {
            KIT.due(inside + " is private and static",
                Modifier.isPrivate(inside.getModifiers()) && Modifier.isStatic(inside.getModifiers()), true);
            int fields = 0;
            for (Field f : inside.getDeclaredFields()) {
                fields += Modifier.isStatic(f.getModifiers()) ? 0 : 1;
                KIT.due(inside + "." + f.getName() + " is no static state",
                    !Modifier.isStatic(f.getModifiers()) || Modifier.isFinal(f.getModifiers()), true);
            }
            KIT.due(inside + " has some twenty fields at most", fields <= 20, true);
            for (Method m : inside.getDeclaredMethods()) {
                KIT.due(m + " takes seven at most", m.getParameterCount() <= 7, true);
            }
        }
    }

    private static String bare(String source) {
        return source.replaceAll("(?s)/\\*.*?\\*/", "").replaceAll("//[^\n]*", "").replaceAll("\"[^\"\n]*\"", "\"\"");
    }

    private static void words(String source) {
        String code = bare(source);
        for (String word : FORBIDDEN) {
            Matcher m = Pattern.compile(word, Pattern.MULTILINE).matcher(code);
            KIT.due("no " + word, m.find(), false);
        }
        Matcher imports = Pattern.compile("^import ([^;]*);", Pattern.MULTILINE).matcher(code);
        while (imports.find()) {
            KIT.due("import " + imports.group(1),
                Arrays.asList("java.util.Arrays", "java.util.NoSuchElementException").contains(imports.group(1)), true);
        }
        Matcher thrown = Pattern.compile("throw ([^;]*);").matcher(code);
        while (thrown.find()) {
            KIT.due("throw " + thrown.group(1), thrown.group(1).equals("new NoSuchElementException()"), true);
        }
        KIT.due("signs 1 to 127 alone", source.chars().allMatch(sign -> sign >= 1 && sign <= 127), true);
    }

    private static void methods(String source) {
        String[] lines = source.split("\n", -1);
        int from = -1;
        String indent = "";
        for (int i = 0; i < lines.length; i++) {
            Matcher head = Pattern.compile("^( +)[A-Za-z].*\\) (throws \\w+ )?\\{$").matcher(lines[i]);
            if (from < 0 && head.find() && !lines[i].trim().matches("(if|for|while|switch)\\b.*")) {
                from = i;
                indent = head.group(1);
            } else if (from >= 0 && lines[i].equals(indent + "}")) {
                KIT.due("sixty lines at most: " + lines[from].trim(), i - from < 60, true);
                from = -1;
            }
        }
    }

    private static void privateNames(String source) {
        Set<String> names = new TreeSet<>();
        for (String method : FACE) {
            names.add(method.replaceAll("^\\w+ (\\w+)\\(.*", "$1"));
        }
        Matcher m = Pattern.compile("^ +(?!public)(?:private |static |final )*(?:int|boolean|long|void) (\\w+)\\(", Pattern.MULTILINE)
            .matcher(bare(source));
        while (m.find()) {
            KIT.due("the face does not share " + m.group(1), names.contains(m.group(1)), false);
        }
    }
}
