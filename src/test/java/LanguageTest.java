import java.io.IOException;
import java.lang.reflect.Constructor;
import java.lang.reflect.Field;
import java.lang.reflect.Method;
import java.lang.reflect.Modifier;
import java.nio.file.Files;
import java.nio.file.Path;
import java.util.Arrays;
import java.util.Set;
import java.util.TreeSet;
import java.util.regex.Matcher;
import java.util.regex.Pattern;

/** What can be looked at from outside of the rules of LANGUAGE.md; run from the project's directory. */
public final class LanguageTest {
    private static final Path SOURCE = Path.of("src/main/java/FarTypewriter.java");
    private static final Set<String> FACE = new TreeSet<>(Arrays.asList(
        "boolean open(int,int,int)", "int program(int)", "int key(int)", "boolean write(int)",
        "boolean move(int,int)", "boolean wipe(int)", "boolean scroll(int)", "int pen(int)", "int tick()",
        "int round()", "int carry(int,int,int,int)", "int roam()", "int cell(int,int,int,int)",
        "int cursor(int,int)", "boolean alike()", "int state(int,int)", "int kept(int,int)",
        "int guess(int,int)", "int letter(int,int,int)", "int count(int)"));

    public static void main(String[] args) throws IOException {
        face();
        names();
        classes();
        words(withoutCommentsAndTexts(Files.readString(SOURCE)));
        Check.finish();
    }

    private static void face() {
        Set<String> found = new TreeSet<>();
        for (Method method : FarTypewriter.class.getDeclaredMethods()) {
            if (!Modifier.isPrivate(method.getModifiers())) {
                Check.due(method + " is public", Modifier.isPublic(method.getModifiers()), true);
                found.add(described(method));
            }
        }
        if (!found.equals(FACE)) {
            System.out.println("the face is " + found);
        }
        Check.due("the face is the document's", found.equals(FACE), true);
        for (Field field : FarTypewriter.class.getDeclaredFields()) {
            boolean isPrivate = Modifier.isPrivate(field.getModifiers());
            Check.due(field + " is private, or NONE", isPrivate || field.getName().equals("NONE"), true);
        }
        Constructor<?>[] constructors = FarTypewriter.class.getDeclaredConstructors();
        Check.due("constructors", constructors.length, 1);
        Check.due("public", Modifier.isPublic(constructors[0].getModifiers()), true);
        Check.due("the class is final", Modifier.isFinal(FarTypewriter.class.getModifiers()), true);
    }

    private static String described(Method method) {
        StringBuilder text = new StringBuilder(method.getReturnType().getName());
        text.append(' ').append(method.getName()).append('(');
        for (int i = 0; i < method.getParameterCount(); i++) {
            text.append(i == 0 ? "" : ",").append(method.getParameterTypes()[i].getName());
        }
        return text.append(')').toString();
    }

    private static void names() {
        Set<String> taken = new TreeSet<>();
        for (Method method : FarTypewriter.class.getDeclaredMethods()) {
            if (Modifier.isPublic(method.getModifiers())) {
                taken.add(method.getName());
            }
        }
        for (Class<?> inside : FarTypewriter.class.getDeclaredClasses()) {
            for (Method method : inside.getDeclaredMethods()) {
                Check.due(method + " bears a public name", taken.contains(method.getName()), false);
                Check.due(method + " has seven parameters at most", method.getParameterCount() <= 7, true);
            }
        }
        for (Method method : FarTypewriter.class.getDeclaredMethods()) {
            boolean isPrivate = Modifier.isPrivate(method.getModifiers());
            Check.due(method + " bears a public name", isPrivate && taken.contains(method.getName()), false);
        }
    }

    private static void classes() {
        Class<?>[] inside = FarTypewriter.class.getDeclaredClasses();
        Check.due("twelve classes at most", inside.length + 1 <= 12, true);
        for (Class<?> one : inside) {
            Check.due(one + " is static", Modifier.isStatic(one.getModifiers()), true);
            Check.due(one + " is not public", Modifier.isPublic(one.getModifiers()), false);
            fields(one);
        }
        fields(FarTypewriter.class);
    }

    private static void fields(Class<?> one) {
        int own = 0;
        for (Field field : one.getDeclaredFields()) {
            boolean isStatic = Modifier.isStatic(field.getModifiers());
            Check.due(field + " is final, if static", !isStatic || Modifier.isFinal(field.getModifiers()), true);
            own += isStatic ? 0 : 1;
        }
        Check.due(one + " has twenty fields at most", own <= 20, true);
    }

    private static String withoutCommentsAndTexts(String source) {
        return source.replaceAll("(?s)/\\*.*?\\*/", " ").replaceAll("//[^\n]*", " ")
            .replaceAll("\"[^\"\n]*\"", "T").replaceAll("'[^'\n]*'", "S");
    }

    private static void words(String code) {
        String[] refused = {"throw", "throws", "try", "catch", "finally", "synchronized", "assert", "package",
            "static \\{", "->", "::", "Exact", "equals", "hashCode", "toString", "Object", "volatile",
            "transient", "native", "protected", "var", "Map", "Set", "Random", "Thread", "native", "yield"};
        for (String word : refused) {
            boolean isWord = Character.isLetter(word.charAt(0)) && !word.contains(" ");
            Matcher found = Pattern.compile(isWord ? "\\b" + word + "\\b" : word).matcher(code);
            Check.due("the source holds " + word, found.find(), false);
        }
        Matcher imports = Pattern.compile("import\\s+([\\w.]+)").matcher(code);
        while (imports.find()) {
            String name = imports.group(1);
            boolean listed = Set.of("java.util.Arrays", "java.util.ArrayList", "java.util.List").contains(name);
            Check.due("import of " + name + " is listed", listed, true);
        }
        Matcher library = Pattern.compile("\\b(System|Arrays|Math|Integer|Long)\\.(\\w+)").matcher(code);
        Set<String> fine = Set.of("System.arraycopy", "Arrays.fill", "Math.max", "Math.min");
        while (library.find()) {
            Check.due(library.group() + " is listed", fine.contains(library.group()), true);
        }
    }
}
