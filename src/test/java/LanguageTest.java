import java.lang.reflect.Constructor;
import java.lang.reflect.Field;
import java.lang.reflect.Method;
import java.lang.reflect.Modifier;
import java.io.IOException;
import java.nio.file.Files;
import java.nio.file.Path;
import java.util.ArrayList;
import java.util.List;
import java.util.Set;
import java.util.TreeSet;
import java.util.regex.Matcher;
import java.util.regex.Pattern;

/** The public face, and the rules of LANGUAGE.md that can be looked up in the class and its text. */
public final class LanguageTest {
    private static final String FACE = "asked(int)int back(int)int breach()int broken(int,int)int comes(int)int "
            + "copy(int,int)int count(int)int day(int,int)int delivers(int)int enough(int,int,int)int "
            + "farBack(int,int)int fault(int)int feed(int,int,int,int,int)int fresh(int,int,int)int gaps()int "
            + "hears(int,int)int image(int)int joined(int)int judge(int,int,int)int kept(int,int,int)int less(int)int "
            + "load(int,int,boolean,int)int lore(int)int lost(int,int)int loud(int,int)int men(int,int,boolean)int "
            + "news(int,int)int numbers(int,int,int)int of(int,int)int perform(int,int)int piece(int)int "
            + "questions(int,int,int,int)int recites(int,int)int restore(int)int risk(int,int)int road(int,int,int)int "
            + "says(int,int)int seeds(int)int sizeFor(int,int)int tells(int,int,int)int thing(int,int)int "
            + "through(int,int,int)int told(int,int,int,int)int turned(int,int)int unfit()int walks(int,int)int "
            + "write(int,int,long)long";

    public static void main(String[] args) throws IOException {
        face();
        List<Class<?>> all = new ArrayList<>();
        all.add(NineInMind.class);
        for (Class<?> c : NineInMind.class.getDeclaredClasses()) {
            all.add(c);
        }
        Check.due("classes above 13", 0, Math.max(0, all.size() - 13));
        for (Class<?> c : all) {
            classRules(c);
        }
        Path source = Path.of("src/main/java/NineInMind.java");
        if (Files.exists(source)) {
            text(Files.readString(source));
        }
        Check.end("LanguageTest");
    }

    private static void face() {
        Set<String> found = new TreeSet<>();
        for (Method method : NineInMind.class.getDeclaredMethods()) {
            if (!Modifier.isPrivate(method.getModifiers())) {
                StringBuilder s = new StringBuilder(method.getName()).append('(');
                for (Class<?> type : method.getParameterTypes()) {
                    s.append(s.charAt(s.length() - 1) == '(' ? "" : ",").append(type.getName());
                }
                found.add(s.append(')').append(method.getReturnType().getName()).toString());
                yes(method.getName() + " is public", Modifier.isPublic(method.getModifiers()));
            }
        }
        yes("the face is " + found, String.join(" ", found).equals(FACE));
        for (Field field : NineInMind.class.getDeclaredFields()) {
            yes(field.getName() + " is private", Modifier.isPrivate(field.getModifiers()) || field.getName().equals("NONE"));
        }
        Constructor<?>[] made = NineInMind.class.getDeclaredConstructors();
        Check.due("constructors", 1, made.length);
        yes("the constructor is public", Modifier.isPublic(made[0].getModifiers()) && made[0].getParameterCount() == 0);
        yes("the class is public and final", Modifier.isPublic(NineInMind.class.getModifiers())
                && Modifier.isFinal(NineInMind.class.getModifiers()));
        Check.due("NONE", -1, NineInMind.NONE);
    }

    private static void yes(String what, boolean holds) {
        Check.due(what, 1, holds ? 1 : 0);
    }

    private static void classRules(Class<?> c) {
        String name = c.getSimpleName();
        yes(name + " is static", c == NineInMind.class || Modifier.isStatic(c.getModifiers()));
        Check.due("classes in " + name, 0, c == NineInMind.class ? 0 : c.getDeclaredClasses().length);
        int own = 0;
        for (Field field : c.getDeclaredFields()) {
            if (Modifier.isStatic(field.getModifiers())) {
                yes(name + "." + field.getName() + " is final", Modifier.isFinal(field.getModifiers()));
            } else {
                own++;
            }
        }
        Check.due("fields above 20 in " + name, 0, Math.max(0, own - 20));
        for (Method method : c.getDeclaredMethods()) {
            yes(name + "." + method.getName() + " takes at most seven", method.getParameterCount() <= 7);
            boolean isFace = c == NineInMind.class && Modifier.isPublic(method.getModifiers());
            yes(name + "." + method.getName() + " is no name of the face",
                    isFace || !(" " + FACE).contains(" " + method.getName() + "("));
        }
    }

    private static void text(String source) {
        String code = source.replaceAll("(?s)/\\*.*?\\*/", "").replaceAll("//[^\n]*", "")
                .replaceAll("'[^']'", "' '").replaceAll("\"[^\"\n]*\"", "\"\"");
        for (String word : new String[] {"throw", "throws", "try", "catch", "synchronized", "assert", "var", "Object",
            "Thread", "Random", "package", "protected", "native", "volatile", "transient", "strictfp", "default ->"}) {
            yes("no " + word, !Pattern.compile("\\b" + word + "\\b").matcher(code).find());
        }
        yes("no lambda", !code.contains("->"));
        yes("no method reference", !code.contains("::"));
        yes("no Exact", !code.contains("Exact"));
        yes("signs 1 to 127", source.chars().allMatch(sign -> sign > 0 && sign < 128));
        Matcher calls = Pattern.compile("\\b(Integer|Long|Math|Arrays|System|String|StringBuilder|List|ArrayList)\\.(\\w+)")
                .matcher(code);
        while (calls.find()) {
            yes(calls.group() + " is in the library that may be used",
                    calls.group().matches("Integer\\.bitCount|Math\\.(abs|min|max)|Arrays\\.fill|System\\.arraycopy"));
        }
        Matcher imports = Pattern.compile("(?m)^import (.*);$").matcher(code);
        while (imports.find()) {
            yes("import of " + imports.group(1), imports.group(1).equals("java.util.Arrays"));
        }
        int length = 0;
        for (String line : source.split("\n")) {
            length = line.matches("    (    )?[a-z].*\\{") ? 0 : length + 1;
            yes("a method of some sixty lines, at: " + line, length < 60 || !line.matches("    (    )?\\}"));
            yes("no line above 120 signs: " + line, line.length() <= 120);
        }
    }
}
