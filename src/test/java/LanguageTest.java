import java.lang.reflect.Constructor;
import java.lang.reflect.Field;
import java.lang.reflect.Member;
import java.lang.reflect.Method;
import java.lang.reflect.Modifier;
import java.nio.file.Files;
import java.nio.file.Path;
import java.util.ArrayList;
import java.util.List;
import java.util.Set;
import java.util.TreeSet;
import java.util.regex.Matcher;
import java.util.regex.Pattern;

/** What of ../shared/LANGUAGE.md can be seen from the source and from the compiled class. */
public final class LanguageTest {
    private static final String[] FACE = {"int state(int)", "int person(int,int,int)", "boolean set(int,int,int)",
        "int address(int,int)", "int version(int,int)", "boolean hand(int,int)", "boolean burn(int,int)",
        "int feed(int,int,int,int,int)", "boolean end(int)", "int text(int)", "int fault(int)", "int days(int)",
        "int of(int,int)", "int letter(int,int,int)", "int onWay(int,int)", "int kind(int,int)", "int post(int,int)",
        "int book(int,int)", "int many(int,int)", "int over()", "int stop(int)", "int reach(int)",
        "int sources(int,int)", "int circle(int)", "int pick(int)", "int join()", "int forebear(int,int)",
        "int lasts(int)", "int knows(int)", "boolean undo()", "boolean image(boolean)", "int look(int)"};
    private static final String[] RULED_OUT = {"\\bthrows?\\b", "\\btry\\b", "\\bcatch\\b", "\\bfinally\\b",
        "\\bsynchronized\\b", "\\bassert\\b", "->", "::", "@", "\\bprotected\\b", "\\bvar\\b",
        "\\bSystem\\.(?!arraycopy)", "\\bMath\\.(?!min|max|abs|floor)", "Exact\\b", "\\bRandom\\b", "\\bThread\\b",
        "\\bstatic \\{", "\\bpackage\\b"};

    public static void main(String[] args) throws Exception {
        String path = args.length > 0 ? args[0] : "src/main/java/NineCopies.java";
        String source = Files.readString(Path.of(path));
        Check.yes("only signs below 128", source.chars().allMatch(sign -> sign < 128));
        String code = withoutCommentsAndTexts(source);
        for (String pattern : RULED_OUT) {
            Check.no("ruled out: " + pattern, Pattern.compile(pattern).matcher(code).find());
        }
        imports(code);
        methodLengths(code);
        face();
        insides();
        Check.finish("LanguageTest");
    }

    private static String withoutCommentsAndTexts(String source) {
        return source.replaceAll("(?s)/\\*.*?\\*/", "").replaceAll("\"[^\"\n]*\"", "\"\"")
                .replaceAll("'[^'\n]*'", "' '").replaceAll("//[^\n]*", "");
    }

    private static void imports(String code) {
        Matcher found = Pattern.compile("import ([^;]+);").matcher(code);
        Set<String> allowed = Set.of("java.util.Arrays", "java.util.ArrayList", "java.util.List", "java.util.Iterator");
        while (found.find()) {
            Check.yes("import " + found.group(1), allowed.contains(found.group(1)));
        }
    }

    private static void methodLengths(String code) {
        String[] lines = code.split("\n");
        for (int i = 0; i < lines.length; i++) {
            if (lines[i].matches("\\s+[\\w\\[\\] ]+\\([^()]*\\) \\{") && !lines[i].matches("\\s+(if|for|while|switch).*")) {
                String close = lines[i].replaceAll("\\S.*", "") + "}";
                int end = i;
                while (end < lines.length && !lines[end].equals(close)) {
                    end++;
                }
                Check.yes("some sixty lines: " + lines[i].trim(), end - i < 62);
            }
        }
    }

    private static void face() {
        Class<?> type = NineCopies.class;
        Check.yes("public and final", Modifier.isPublic(type.getModifiers()) && Modifier.isFinal(type.getModifiers()));
        Set<String> due = new TreeSet<>(List.of(FACE));
        Set<String> found = new TreeSet<>();
        List<Member> members = new ArrayList<>(List.of(type.getDeclaredMethods()));
        members.addAll(List.of(type.getDeclaredFields()));
        for (Method method : type.getDeclaredMethods()) {
            if (Modifier.isPublic(method.getModifiers())) {
                found.add(written(method));
            }
        }
        Check.yes("the face: " + found, found.equals(due));
        for (Member member : members) {
            boolean isFace = Modifier.isPublic(member.getModifiers());
            Check.yes("public or private: " + member, isFace || Modifier.isPrivate(member.getModifiers()));
        }
        Constructor<?>[] made = type.getDeclaredConstructors();
        Check.yes("one constructor", made.length == 1 && Modifier.isPublic(made[0].getModifiers())
                && made[0].getParameterCount() == 0);
        for (Field field : type.getFields()) {
            Check.yes("public constant " + field, field.getName().equals("NONE"));
        }
    }

    private static String written(Method method) {
        StringBuilder text = new StringBuilder(method.getReturnType().getName() + " " + method.getName() + "(");
        for (Class<?> parameter : method.getParameterTypes()) {
            text.append(text.charAt(text.length() - 1) == '(' ? "" : ",").append(parameter.getName());
        }
        return text.append(")").toString();
    }

    private static void insides() {
        Set<String> names = new TreeSet<>();
        for (String one : FACE) {
            names.add(one.substring(one.indexOf(' ') + 1, one.indexOf('(')));
        }
        List<Class<?>> types = new ArrayList<>(List.of(NineCopies.class.getDeclaredClasses()));
        Check.yes("some twelve classes", types.size() <= 11);
        for (Class<?> type : types) {
            int is = type.getModifiers();
            Check.yes("static: " + type, Modifier.isStatic(is));
            Check.no("neither public nor protected: " + type, Modifier.isPublic(is) || Modifier.isProtected(is));
        }
        types.add(NineCopies.class);
        for (Class<?> type : types) {
            int fields = 0;
            for (Field field : type.getDeclaredFields()) {
                boolean isStatic = Modifier.isStatic(field.getModifiers());
                Check.yes("static is final: " + field, !isStatic || Modifier.isFinal(field.getModifiers()));
                fields += isStatic ? 0 : 1;
            }
            Check.yes("some twenty fields: " + type, fields <= 20);
            for (Method method : type.getDeclaredMethods()) {
                boolean isFace = Modifier.isPublic(method.getModifiers());
                Check.yes("no name of the face: " + method, isFace || !names.contains(method.getName()));
                Check.yes("seven parameters: " + method, method.getParameterCount() <= 7);
            }
        }
    }
}
