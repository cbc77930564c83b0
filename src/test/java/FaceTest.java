import java.lang.reflect.Constructor;
import java.lang.reflect.Field;
import java.lang.reflect.Method;
import java.lang.reflect.Modifier;
import java.nio.file.Files;
import java.nio.file.Path;
import java.util.Set;
import java.util.TreeSet;
import java.util.regex.Matcher;
import java.util.regex.Pattern;

/** The document's public face, and the rules of LANGUAGE.md that a look at the text can tell. */
final class FaceTest {
    private static final String[] FACE = {
        "int folio(int)", "boolean tear(int,int)", "boolean day(int)", "boolean since(int)",
        "int enter(int,int,long,int,long)", "boolean claim(int,int,int)", "boolean owe(int,long)",
        "long pay(int,long)", "boolean paper(int,boolean)", "int split(int,long)",
        "int hand(int,long,int)", "int post(int,int,long)", "boolean undo(int)",
        "boolean release(int,int)", "boolean strike(int)", "boolean keep(int,int)",
        "int many(int,int)", "int list(int,int,int)", "int rank(int,int)", "int why(int,int)",
        "int as(int,int,int,int)", "boolean choose(int)", "long sale(int,int,long,long)",
        "long sell(int,int,long,long)", "long share(int)", "boolean tell(int,long)",
        "int check(long)", "int circle(int)", "long due(int)", "int kind(int,int)",
        "long sum(int)", "long parcels(int)", "int status()", "int count(int)",
    };
    private static final String[] FORBIDDEN = {
        "throw", "throws", "try", "catch", "synchronized", "assert", "import", "package",
        "protected", "Object", "equals", "hashCode", "Math\\.\\w+Exact", "->", "::", "static \\{",
    };
    private static final Checks C = new Checks("FaceTest");

    public static void main(String[] args) throws Exception {
        members();
        nested();
        text(Files.readString(Path.of("src/main/java/RankBook.java")));
        C.finish();
    }

    private static String signature(Method m) {
        StringBuilder text = new StringBuilder(m.getReturnType().getName() + " " + m.getName() + "(");
        for (Class<?> type : m.getParameterTypes()) {
            text.append(text.charAt(text.length() - 1) == '(' ? "" : ",").append(type.getName());
        }
        return text.append(")").toString();
    }

    private static void members() throws Exception {
        Set<String> want = new TreeSet<>(Set.of(FACE));
        Set<String> names = new TreeSet<>();
        for (Method m : RankBook.class.getDeclaredMethods()) {
            boolean open = Modifier.isPublic(m.getModifiers());
            C.due("face: " + signature(m), open || Modifier.isPrivate(m.getModifiers()), true);
            C.due("face: " + signature(m) + " is in it", open, want.remove(signature(m)));
            C.due("face: the name " + m.getName() + " is used once", names.add(m.getName()), true);
        }
        C.due("face: missing are " + want, want.size(), 0);
        Constructor<?>[] made = RankBook.class.getDeclaredConstructors();
        C.due("face: one constructor", made.length, 1);
        C.due("face: it is public", Modifier.isPublic(made[0].getModifiers()), true);
        C.due("face: without parameters", made[0].getParameterCount(), 0);
        C.due("face: final", Modifier.isFinal(RankBook.class.getModifiers()), true);
        for (Field f : RankBook.class.getDeclaredFields()) {
            C.due("face: field " + f.getName(), Modifier.isPrivate(f.getModifiers()),
                    !f.getName().equals("NONE"));
        }
        C.due("face: NONE", RankBook.class.getField("NONE").getInt(null), -1);
    }

    private static void nested() {
        Class<?>[] all = RankBook.class.getDeclaredClasses();
        C.due("language 11: at most twelve classes", all.length < 12, true);
        Set<String> face = new TreeSet<>();
        for (String signature : FACE) {
            face.add(signature.substring(signature.indexOf(' ') + 1, signature.indexOf('(')));
        }
        for (Class<?> c : all) {
            C.due("language 2: " + c.getName() + " is static", Modifier.isStatic(c.getModifiers()), true);
            C.due("language 11: fields of " + c.getName(), c.getDeclaredFields().length <= 20, true);
            for (Method m : c.getDeclaredMethods()) {
                C.due("language 1: the name " + m.getName(), face.contains(m.getName()), false);
                C.due("language 11: parameters of " + m.getName(), m.getParameterCount() <= 7, true);
            }
        }
    }

    private static void text(String source) {
        String code = source.replaceAll("(?s)/\\*.*?\\*/", "").replaceAll("//[^\n]*", "");
        for (String word : FORBIDDEN) {
            boolean wordLike = Character.isLetter(word.charAt(0));
            Matcher found = Pattern.compile(wordLike ? "\\b" + word + "\\b" : word).matcher(code);
            C.due("language: '" + word + "' is not used", found.find(), false);
        }
        Matcher library = Pattern.compile("\\b(?:Math|System|Arrays|Integer|Long|String)\\.(\\w+)").matcher(code);
        while (library.find()) {
            C.due("language 4: " + library.group(), Set.of("min", "max").contains(library.group(1)), true);
        }
        C.due("language 3: characters", source.chars().allMatch(c -> c < 127), true);
    }
}
