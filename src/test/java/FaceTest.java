import java.io.IOException;
import java.lang.reflect.Constructor;
import java.lang.reflect.Field;
import java.lang.reflect.Method;
import java.lang.reflect.Modifier;
import java.nio.charset.StandardCharsets;
import java.nio.file.Files;
import java.nio.file.Path;
import java.util.Set;
import java.util.TreeSet;

/** The face is the document's and no more; the source keeps to what can be seen of LANGUAGE.md at a glance. */
public final class FaceTest {
    private static final String[] FACE = {
        "int feed(int,int,int,int,int)", "boolean end(int)", "int text()", "int fault(int)", "int has(int)",
        "int letter(int,int)", "int road(int,int)", "boolean day(int)", "int worth(int,int)", "int annul(int)",
        "boolean as(int)", "int made(int,int)", "int most(boolean)", "int row(int)", "int end(int,boolean)",
        "int of(int)", "int moves(int,int)", "int pays(int)", "int two(int,int,boolean,boolean)",
        "int price(int)", "int ways()", "int deal(int,int)", "int undeal(int)", "int dealRow()",
        "int share(int)", "int money(int)", "int other(int,boolean)", "int chain(int,int)", "int breaks()",
        "int away()", "int uneven()", "int haggle(int)", "int ended()", "int gift()", "int surely()",
        "int image()", "int octet(int)", "boolean on()"};

    public static void main(String[] args) throws IOException {
        Due due = new Due("FaceTest");
        methods(due);
        due.is("NONE", RoadDeals.NONE, -1);
        due.is("final and public", Modifier.toString(RoadDeals.class.getModifiers()).equals("public final"), true);
        for (Field field : RoadDeals.class.getDeclaredFields()) {
            boolean open = !Modifier.isPrivate(field.getModifiers());
            due.is("field " + field.getName(), open && !field.isSynthetic(), field.getName().equals("NONE"));
        }
        Constructor<?>[] all = RoadDeals.class.getDeclaredConstructors();
        due.is("constructors", all.length, 1);
        due.is("its parameters", all[0].getParameterCount(), 0);
        due.is("public constructor", Modifier.isPublic(all[0].getModifiers()), true);
        source(due);
        due.end();
    }

    private static void methods(Due due) {
        Set<String> wanted = new TreeSet<>(Set.of(FACE));
        Set<String> names = new TreeSet<>();
        Set<String> open = new TreeSet<>();
        for (Method method : RoadDeals.class.getDeclaredMethods()) {
            if (!Modifier.isPrivate(method.getModifiers()) && !method.isSynthetic()) {
                open.add(told(method));
                names.add(method.getName());
            }
        }
        due.is("face " + open, open.equals(wanted), true);
        for (Class<?> inside : RoadDeals.class.getDeclaredClasses()) {
            due.is("static " + inside, Modifier.isStatic(inside.getModifiers()), true);
            for (Method method : inside.getDeclaredMethods()) {
                due.is("own name " + method, names.contains(method.getName()), false);
            }
        }
        due.is("classes", RoadDeals.class.getDeclaredClasses().length <= 12, true);
    }

    private static String told(Method method) {
        StringBuilder told = new StringBuilder(method.getReturnType() + " " + method.getName() + "(");
        for (Class<?> type : method.getParameterTypes()) {
            told.append(told.charAt(told.length() - 1) == '(' ? "" : ",").append(type);
        }
        return told.append(")").toString();
    }

    private static void source(Due due) throws IOException {
        byte[] bytes = Files.readAllBytes(Path.of("src/main/java/RoadDeals.java"));
        String text = new String(bytes, StandardCharsets.ISO_8859_1);
        String code = text.replaceAll("(?s)/\\*.*?\\*/", "").replaceAll("//[^\n]*", "")
                .replaceAll("\"[^\"]*\"", "\"\"");
        for (String word : new String[] {"throw", "try", "catch", "synchronized", "assert", "package", "instanceof"}) {
            due.is("word " + word, code.matches("(?s).*\\b" + word + "\\b.*"), false);
        }
        for (String sign : new String[] {"->", "::", "Exact(", "System.out", "Random", "Thread"}) {
            due.is("sign " + sign, code.contains(sign), false);
        }
        for (byte it : bytes) {
            due.is("byte", it == 10 || it >= 32 && it < 127, true);
        }
    }
}
