import java.io.IOException;
import java.lang.reflect.Constructor;
import java.lang.reflect.Field;
import java.lang.reflect.Method;
import java.lang.reflect.Modifier;
import java.nio.file.Files;
import java.nio.file.Path;
import java.util.ArrayList;
import java.util.Arrays;
import java.util.List;
import java.util.Set;
import java.util.TreeSet;
import java.util.regex.Matcher;
import java.util.regex.Pattern;

/** The face of the class, and rules of LANGUAGE.md that can be read off the class and its text. */
public final class LanguageTest {
    private static final String[] FACE = {
        "about(int,int)", "age(int)", "alike(int,int,int,int)", "born(int,int,int,int)", "brides(int,int,int)",
        "camp(int,int)", "children(int,int)", "count(int)", "die(int,int)", "fault(int)", "feed(long,int)",
        "group(int)", "half(int,int)", "halves(int,int)", "home(int,int,int)", "kin(int,int,int,int)", "lack(int)",
        "law(int,int,int,int)", "lay(int,int)", "lies(int)", "living(int,int,int)", "marriages(int,int)",
        "marry(int,int,int)", "match(int,int)", "matched(int)", "may(int,int,int)", "open(int)", "spouse(int,int)",
        "stranger(int,int,int,int)", "sure()", "system()", "table(int,int,int)"
    };
    private static final String[] FORBIDDEN = {
        "\\bthrow\\b", "\\bthrows\\b", "\\btry\\b", "\\bcatch\\b", "\\bsynchronized\\b", "\\bassert\\b", "->", "::",
        "Exact\\b", "\\bpackage\\b", "\\bequals\\b", "\\bhashCode\\b", "\\btoString\\b", "\\bprotected\\b"
    };
    private static final Check check = new Check();

    public static void main(String[] args) throws IOException {
        constants();
        face();
        classesInside();
        text(Files.readString(Path.of("src/main/java/SectionLand.java")));
        check.end("LanguageTest");
    }

    private static void constants() {
        check.due("NONE", SectionLand.NONE, -1);
        check.due("BAD", SectionLand.BAD, -2);
        check.due("STATE", SectionLand.STATE, -3);
        check.due("FULL", SectionLand.FULL, -4);
        Set<String> open = new TreeSet<>();
        for (Field field : SectionLand.class.getDeclaredFields()) {
            if (!Modifier.isPrivate(field.getModifiers())) {
                open.add(field.getName());
            }
        }
        same("rule 1: fields", open, List.of("BAD", "FULL", "NONE", "STATE"));
    }

    private static void face() {
        Set<String> open = new TreeSet<>();
        Set<String> openNames = new TreeSet<>();
        Set<String> hiddenNames = new TreeSet<>();
        for (Method method : SectionLand.class.getDeclaredMethods()) {
            if (Modifier.isPrivate(method.getModifiers())) {
                hiddenNames.add(method.getName());
                continue;
            }
            open.add(signature(method));
            openNames.add(method.getName());
            check.due("rule 1: " + method + " is public", Modifier.isPublic(method.getModifiers()) ? 1 : 0, 1);
            check.due("rule 1: " + method + " answers an int", method.getReturnType() == int.class ? 1 : 0, 1);
        }
        same("rule 1: methods", open, Arrays.asList(FACE));
        for (Class<?> inside : SectionLand.class.getDeclaredClasses()) {
            for (Method method : inside.getDeclaredMethods()) {
                hiddenNames.add(method.getName());
            }
        }
        hiddenNames.retainAll(openNames);
        same("rule 1: hidden methods with a public name", hiddenNames, List.of());
        Constructor<?>[] constructors = SectionLand.class.getDeclaredConstructors();
        check.due("rule 1: constructors", constructors.length, 1);
        check.due("rule 1: its parameters", constructors[0].getParameterCount(), 0);
        check.due("rule 1: public, final", SectionLand.class.getModifiers(), Modifier.PUBLIC | Modifier.FINAL);
    }

    private static String signature(Method method) {
        List<String> types = new ArrayList<>();
        for (Class<?> type : method.getParameterTypes()) {
            types.add(type.getName());
        }
        return method.getName() + "(" + String.join(",", types) + ")";
    }

    private static void classesInside() {
        Class<?>[] inside = SectionLand.class.getDeclaredClasses();
        check.due("rule 11: at most twelve classes", inside.length <= 11 ? 1 : 0, 1);
        List<Class<?>> all = new ArrayList<>(Arrays.asList(inside));
        all.add(SectionLand.class);
        for (Class<?> one : all) {
            if (one != SectionLand.class) {
                check.due("rule 2: static " + one, Modifier.isStatic(one.getModifiers()) ? 1 : 0, 1);
            }
            int fields = 0;
            for (Field field : one.getDeclaredFields()) {
                boolean isStatic = Modifier.isStatic(field.getModifiers());
                fields += isStatic ? 0 : 1;
                check.due("rule 5: " + field, isStatic && !Modifier.isFinal(field.getModifiers()) ? 1 : 0, 0);
            }
            check.due("rule 11: at most twenty fields " + one, fields <= 20 ? 1 : 0, 1);
            for (Method method : one.getDeclaredMethods()) {
                check.due("rule 11: at most seven parameters " + method, method.getParameterCount() <= 7 ? 1 : 0, 1);
            }
        }
    }

    private static void text(String whole) {
        String code = whole.replaceAll("(?s)/\\*.*?\\*/", "").replaceAll("//[^\n]*", "");
        for (String forbidden : FORBIDDEN) {
            Matcher matcher = Pattern.compile(forbidden).matcher(code);
            check.due("rules 3, 4, 6: " + forbidden, matcher.find() ? 1 : 0, 0);
        }
        Matcher imports = Pattern.compile("import ([^;]*);").matcher(code);
        while (imports.find()) {
            check.due("rule 4: import " + imports.group(1), imports.group(1).equals("java.util.Arrays") ? 1 : 0, 1);
        }
        check.due("signs of the text", code.chars().allMatch(c -> c < 128) ? 1 : 0, 1);
    }

    private static void same(String label, Set<String> got, List<String> want) {
        Set<String> wanted = new TreeSet<>(want);
        if (!got.equals(wanted)) {
            System.out.println(label + ": " + got + ", due: " + wanted);
        }
        check.due(label, got.equals(wanted) ? 1 : 0, 1);
    }
}
