import java.lang.reflect.Array;
import java.lang.reflect.Constructor;
import java.lang.reflect.Field;
import java.lang.reflect.Method;
import java.lang.reflect.Modifier;
import java.nio.file.Files;
import java.nio.file.Path;
import java.util.Collections;
import java.util.IdentityHashMap;
import java.util.Set;
import java.util.TreeSet;
import java.util.regex.Matcher;
import java.util.regex.Pattern;

/** The public face, the rules of the language that a test can see, and the room that objects take. */
public final class FaceTest {
    private static final Set<String> FACE = Set.of("version()", "feed(long,int)", "byteAt(int)", "poke(int,int)",
        "keep(int)", "sign(int)", "type(long,int)", "size()", "at(int)", "alphabet(int,int,int)", "entry(int,int)",
        "tell(int)", "behind()", "numbers(int)", "make(int)", "word()", "wordByte(int,int)", "words()",
        "separator(int,boolean)", "part()", "token(int,int)");
    private static final String[] FORBIDDEN = {"throw", "throws", "try", "catch", "synchronized", "assert", "System\\.out",
        "Math\\.\\w+Exact", "->", "::", "protected", "volatile", "native", "Object", "static\\s*\\{"};
    private static final int MOST_ELEMENTS = 25_000;
    private static int wrong = 0;

    private static void check(String what, boolean holds) {
        if (!holds) {
            wrong++;
            System.out.println("not so: " + what);
        }
    }

    private static String signature(Method method) {
        StringBuilder s = new StringBuilder(method.getName()).append('(');
        for (Class<?> type : method.getParameterTypes()) {
            s.append(s.charAt(s.length() - 1) == '(' ? "" : ",").append(type.getName());
        }
        return s.append(')').toString();
    }

    private static void face() {
        check("the class is public and final", Modifier.isPublic(ZText.class.getModifiers())
            && Modifier.isFinal(ZText.class.getModifiers()));
        Set<String> seen = new TreeSet<>();
        Set<String> names = new TreeSet<>();
        for (Method method : ZText.class.getDeclaredMethods()) {
            if (method.isSynthetic()) {
                continue;
            }
            if (Modifier.isPublic(method.getModifiers())) {
                seen.add(signature(method));
                names.add(method.getName());
                check(signature(method) + " answers an int, of an object",
                    method.getReturnType() == int.class && !Modifier.isStatic(method.getModifiers()));
            } else {
                check(signature(method) + " is private", Modifier.isPrivate(method.getModifiers()));
            }
        }
        check("the methods are those of the document: " + seen, seen.equals(new TreeSet<>(FACE)));
        Constructor<?>[] constructors = ZText.class.getDeclaredConstructors();
        check("one public constructor of an int", constructors.length == 1
            && Modifier.isPublic(constructors[0].getModifiers())
            && constructors[0].getParameterCount() == 1
            && constructors[0].getParameterTypes()[0] == int.class);
        fieldsArePrivate(ZText.class);
        for (Class<?> inside : ZText.class.getDeclaredClasses()) {
            check(inside.getName() + " is static", Modifier.isStatic(inside.getModifiers()));
            fieldsArePrivate(inside);
            for (Method method : inside.getDeclaredMethods()) {
                check(inside.getName() + "." + method.getName() + " has a name of its own",
                    !names.contains(method.getName()));
            }
        }
        check("at most twelve classes", ZText.class.getDeclaredClasses().length < 12);
    }

    private static void fieldsArePrivate(Class<?> type) {
        int fields = 0;
        for (Field field : type.getDeclaredFields()) {
            int modifiers = field.getModifiers();
            check(type.getName() + "." + field.getName() + " is private", Modifier.isPrivate(modifiers));
            check(type.getName() + "." + field.getName() + " is final if static",
                !Modifier.isStatic(modifiers) || Modifier.isFinal(modifiers));
            fields += Modifier.isStatic(modifiers) ? 0 : 1;
        }
        check(type.getName() + " has at most twenty fields", fields <= 20);
    }

    private static void language() throws Exception {
        String source = Files.readString(Path.of("src/main/java/ZText.java"));
        String code = source.replaceAll("(?s)/\\*.*?\\*/", " ").replaceAll("//[^\n]*", " ");
        for (String word : FORBIDDEN) {
            boolean isWord = Character.isLetter(word.charAt(0));
            Matcher found = Pattern.compile(isWord ? "\\b" + word + "\\b" : word).matcher(code);
            check("the code is free of " + word, !found.find());
        }
        Matcher imports = Pattern.compile("import\\s+([\\w.*]+)").matcher(code);
        while (imports.find()) {
            check(imports.group(1) + " is in the library",
                Set.of("java.util.Arrays", "java.util.ArrayList", "java.util.List").contains(imports.group(1)));
        }
        check("no package", !Pattern.compile("\\bpackage\\b").matcher(code).find());
    }

    private static int room(Object object, Set<Object> seen) throws Exception {
        if (object == null || !seen.add(object)) {
            return 0;
        }
        if (object.getClass().isArray()) {
            return Array.getLength(object);
        }
        int room = 0;
        for (Field field : object.getClass().getDeclaredFields()) {
            if (Modifier.isStatic(field.getModifiers())) {
                continue;
            }
            room++;
            if (!field.getType().isPrimitive()) {
                field.setAccessible(true);
                room += room(field.get(object), seen);
            }
        }
        return room;
    }

    private static void roomOfAnObject() throws Exception {
        ZText z = new ZText(5);
        Set<Object> before = Collections.newSetFromMap(new IdentityHashMap<>());
        int room = room(z, before);
        check("an object has " + room + " elements, at most " + MOST_ELEMENTS, room <= MOST_ELEMENTS);
        for (int k = 0; k < 40; k++) {
            z.type(0x6C616D702C206C61L + k, 8);
            z.entry(k, z.make(1));
            z.numbers(1);
            z.word();
            z.part();
            z.tell(0);
        }
        Set<Object> after = Collections.newSetFromMap(new IdentityHashMap<>());
        check("calls make it no bigger", room(z, after) == room);
        check("calls make nothing that is kept", before.containsAll(after));
    }

    public static void main(String[] args) throws Exception {
        face();
        language();
        roomOfAnObject();
        System.out.println(wrong == 0 ? "all is as due" : wrong + " things are not as due");
        if (wrong != 0) {
            System.exit(1);
        }
    }
}
