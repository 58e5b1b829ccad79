import java.lang.reflect.Constructor;
import java.lang.reflect.Field;
import java.lang.reflect.Method;
import java.lang.reflect.Modifier;
import java.util.Arrays;
import java.util.TreeSet;

/** The public face: the constants, constructor and methods of the document, and no others. */
public final class FaceTest {
    private static final String[] FACE = {
        "public final class CoverDesk",
        "public CoverDesk()",
        "public static final int CoverDesk.OK", "public static final int CoverDesk.CUT",
        "public static final int CoverDesk.NONE", "public static final int CoverDesk.MANY",
        "public int CoverDesk.block(int,int)",
        "public boolean CoverDesk.exits(int,int,int,int,int)",
        "public int CoverDesk.clear()",
        "public int CoverDesk.build()",
        "public boolean CoverDesk.weight(int,int)",
        "public int CoverDesk.run(int,int)",
        "public int CoverDesk.last(int)",
        "public int CoverDesk.edge(int,int)",
        "public int CoverDesk.probe(int)",
        "public int CoverDesk.count(int)",
        "public int CoverDesk.done(int)",
        "public int CoverDesk.covered(int)",
        "public int CoverDesk.path(int)",
        "public int CoverDesk.pathEdge(int,int)",
        "public boolean CoverDesk.dump(int)",
        "public boolean CoverDesk.merge(int)",
    };

    public static void main(String[] args) {
        TreeSet<String> seen = new TreeSet<>();
        seen.add(CoverDesk.class.toGenericString());
        for (Constructor<?> each : CoverDesk.class.getDeclaredConstructors()) {
            seen.add(each.toString());
        }
        for (Field each : CoverDesk.class.getDeclaredFields()) {
            if (!Modifier.isPrivate(each.getModifiers())) {
                seen.add(each.toString());
            }
        }
        for (Method each : CoverDesk.class.getDeclaredMethods()) {
            if (!Modifier.isPrivate(each.getModifiers())) {
                seen.add(each.toString());
            }
        }
        Due.due("the face", seen.toString(), new TreeSet<>(Arrays.asList(FACE)).toString());
        Due.due("OK", CoverDesk.OK, 0);
        Due.due("CUT", CoverDesk.CUT, 1);
        Due.due("NONE", CoverDesk.NONE, -1);
        Due.due("MANY", CoverDesk.MANY, -2);
        Due.finish();
    }
}
