import java.lang.reflect.Constructor;
import java.lang.reflect.Field;
import java.lang.reflect.Method;
import java.lang.reflect.Modifier;
import java.util.ArrayList;
import java.util.HashSet;
import java.util.List;
import java.util.Set;

/** The public face is the document's, and nothing else can be seen from outside (LANGUAGE.md, rule 1). */
public final class FaceTest {
    private static final String[] FACE = {
        "feed int,int,int,int,int int", "end int boolean", "fault int int", "text int int", "rule int int",
        "tape int,int int", "file int,int int", "drive int int", "labelled int int", "way int,int int",
        "seek int,int int", "path int,int,int int", "ask int int", "serve  int", "write int,int int",
        "drop int int", "mount int int", "unmount int int", "copy int,int int", "lose  int", "scan int int",
        "pause int int", "rescue  int", "years int,long int", "status int int", "undo  int", "log int,int int",
        "takes int,int int", "least int int", "all int int", "served int int", "soon int int", "target int int",
        "cheap int int", "idle int int", "shares int,int int", "step int,int,int int", "run int,int int",
        "perform int int", "most int int", "image  int", "back  int", "count int int"};

    public static void main(String[] args) {
        Check check = new Check("FaceTest");
        check.due("NONE", SpoolHall.NONE, -1);
        check.due("HIDDEN", SpoolHall.HIDDEN, -1000000);
        check.due("public final", Modifier.isFinal(SpoolHall.class.getModifiers()), true);
        Set<String> due = new HashSet<>(List.of(FACE));
        Set<String> publicNames = new HashSet<>();
        Set<String> seen = new HashSet<>();
        List<Method> hidden = new ArrayList<>();
        for (Method method : SpoolHall.class.getDeclaredMethods()) {
            if (Modifier.isPrivate(method.getModifiers())) {
                hidden.add(method);
            } else {
                seen.add(written(method));
                publicNames.add(method.getName());
                check.due(method + " is public", Modifier.isPublic(method.getModifiers()), true);
            }
        }
        check.due("methods are the document's: " + seen, seen.equals(due), true);
        for (Method method : hidden) {
            String name = method.getName();
            check.due("private " + name + " has a name of the face", publicNames.contains(name), false);
        }
        for (Field field : SpoolHall.class.getDeclaredFields()) {
            boolean constant = field.getName().equals("NONE") || field.getName().equals("HIDDEN");
            check.due("field " + field.getName() + " is private", Modifier.isPrivate(field.getModifiers()), !constant);
        }
        for (Constructor<?> constructor : SpoolHall.class.getDeclaredConstructors()) {
            check.due("constructor without parameters", constructor.getParameterCount(), 0);
        }
        check.finish();
    }

    private static String written(Method method) {
        StringBuilder parameters = new StringBuilder();
        for (Class<?> type : method.getParameterTypes()) {
            parameters.append(parameters.length() == 0 ? "" : ",").append(type.getName());
        }
        return method.getName() + " " + parameters + " " + method.getReturnType().getName();
    }
}
