import com.sun.management.ThreadMXBean;
import java.lang.management.ManagementFactory;
import java.lang.reflect.Constructor;
import java.lang.reflect.Field;
import java.lang.reflect.Method;
import java.lang.reflect.Modifier;
import java.nio.file.Files;
import java.nio.file.Path;
import java.util.Set;
import java.util.TreeSet;
import java.util.regex.Matcher;
import java.util.regex.Pattern;

/** The public face, the rules of the language that a test can see, and the room that a run takes. */
public final class FaceTest {
    private static final Set<String> FACE = Set.of("version()", "feed(long,int)", "byteAt(int)", "poke(int,int)",
        "keep(int)", "sign(int)", "type(long,int)", "size()", "at(int)", "alphabet(int,int,int)", "entry(int,int)",
        "tell(int)", "behind()", "numbers(int)", "make(int)", "word()", "wordByte(int,int)", "words()",
        "separator(int,boolean)", "part()", "token(int,int)");
    private static final String[] FORBIDDEN = {"throw", "throws", "try", "catch", "synchronized", "assert", "System\\.out",
        "Math\\.\\w+Exact", "::", "protected", "volatile", "native", "Object", "static\\s*\\{"};
    /** The room of all calls of one run, in fields and elements of four bytes at least. */
    private static final long MOST_BYTES = 4L * 7_300_000;

    private static void check(String what, boolean holds) {
        Due.holds(what, holds);
    }

    private static String signature(Method method) {
        StringBuilder s = new StringBuilder(method.getName()).append('(');
        for (Class<?> type : method.getParameterTypes()) {
            s.append(s.charAt(s.length() - 1) == '(' ? "" : ",").append(type.getName());
        }
        return s.append(')').toString();
    }

    private static void face() {
        check("1: the class is public and final", Modifier.isPublic(ZText.class.getModifiers())
            && Modifier.isFinal(ZText.class.getModifiers()));
        Set<String> seen = new TreeSet<>();
        Set<String> names = new TreeSet<>();
        for (Method method : ZText.class.getDeclaredMethods()) {
            if (method.isSynthetic()) {
                continue;
            }
            if (Modifier.isPublic(method.getModifiers())) {
                seen.add(signature(method));
                names.add(method.getName());
                check(signature(method) + " answers an int, of an object",
                    method.getReturnType() == int.class && !Modifier.isStatic(method.getModifiers()));
            } else {
                check("1: " + signature(method) + " is private", Modifier.isPrivate(method.getModifiers()));
            }
        }
        check("1: the methods are those of the document: " + seen, seen.equals(new TreeSet<>(FACE)));
        Constructor<?>[] constructors = ZText.class.getDeclaredConstructors();
        check("1: one public constructor of an int", constructors.length == 1
            && Modifier.isPublic(constructors[0].getModifiers())
            && constructors[0].getParameterCount() == 1
            && constructors[0].getParameterTypes()[0] == int.class);
        for (Field field : ZText.class.getDeclaredFields()) {
            check("1: " + field.getName() + " is private",
                field.isSynthetic() || Modifier.isPrivate(field.getModifiers()));
        }
        membersKeepTheRules(ZText.class, names);
        for (Class<?> inside : ZText.class.getDeclaredClasses()) {
            check("2: " + inside.getName() + " is static", Modifier.isStatic(inside.getModifiers()));
            membersKeepTheRules(inside, names);
        }
        check("11: some twelve classes", ZText.class.getDeclaredClasses().length <= 13);
    }

    private static void membersKeepTheRules(Class<?> type, Set<String> publicNames) {
        int fields = 0;
        for (Field field : type.getDeclaredFields()) {
            int modifiers = field.getModifiers();
            check("5: " + type.getName() + "." + field.getName() + " is final if static",
                !Modifier.isStatic(modifiers) || Modifier.isFinal(modifiers));
            fields += Modifier.isStatic(modifiers) ? 0 : 1;
        }
        check("11: " + type.getName() + " has some twenty fields", fields <= 22);
        for (Method method : type.getDeclaredMethods()) {
            check("11: " + type.getName() + "." + method.getName() + " takes at most seven parameters",
                method.getParameterCount() <= 7);
            check("1: private " + type.getName() + "." + method.getName() + " has a name of its own",
                !Modifier.isPrivate(method.getModifiers()) || !publicNames.contains(method.getName()));
        }
    }

    private static void language() throws Exception {
        String source = Files.readString(Path.of("src/main/java/ZText.java"));
        String code = source.replaceAll("(?s)/\\*.*?\\*/", " ").replaceAll("//[^\n]*", " ");
        String arrows = code.replaceAll("(case\\b[^:;{}]*|default\\s*)->", " ");
        check("2: no lambda", !arrows.contains("->"));
        for (String word : FORBIDDEN) {
            boolean isWord = Character.isLetter(word.charAt(0));
            Matcher found = Pattern.compile(isWord ? "\\b" + word + "\\b" : word).matcher(code);
            check("the code is free of " + word, !found.find());
        }
        Matcher imports = Pattern.compile("import\\s+([\\w.*]+)").matcher(code);
        while (imports.find()) {
            check(imports.group(1) + " is in the library",
                Set.of("java.util.Arrays", "java.util.ArrayList", "java.util.List", "java.util.Iterator").contains(imports.group(1)));
        }
        check("no package", !Pattern.compile("\\bpackage\\b").matcher(code).find());
    }

    private static long allocated() {
        ThreadMXBean threads = (ThreadMXBean) ManagementFactory.getThreadMXBean();
        return threads.getThreadAllocatedBytes(Thread.currentThread().getId());
    }

    /** A run of 512 calls, most of them of the dearest kinds: what it makes has room. */
    private static void roomOfARun() {
        long before = allocated();
        ZText z = new ZText(5);
        for (int k = 0; k < 62; k++) {
            z.type(0x6C616D702C206C61L + k, 8);
            z.entry(k, z.make(1));
            z.numbers(1);
            z.word();
            z.part();
            z.tell(0);
            z.type(0x6C616D702C206C61L + k, 8);
        }
        long made = allocated() - before;
        check("a run makes " + made + " bytes, at most " + MOST_BYTES, made <= MOST_BYTES);
    }

    public static void main(String[] args) throws Exception {
        face();
        language();
        roomOfARun();
        Due.end();
    }
}
