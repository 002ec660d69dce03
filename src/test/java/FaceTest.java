import java.lang.reflect.Constructor;
import java.lang.reflect.Field;
import java.lang.reflect.Method;
import java.lang.reflect.Modifier;
import java.util.Set;
import java.util.TreeSet;

/** The public face: the document's constructor and methods, and nothing else that is not private. */
public final class FaceTest {
  public static void main(String[] args) {
    Check.sentence("The class is final.", FaceTest::classIsPublicAndFinal);
    Check.sentence("It has no public constants.", FaceTest::fieldsArePrivate);
    Check.sentence("public EntropyPool();", FaceTest::constructorTakesNothing);
    Check.sentence("The public face: mix, credit, extract, available.", FaceTest::methodsAreTheDocuments);
    Check.end();
  }

  private static void classIsPublicAndFinal() {
    int modifiers = EntropyPool.class.getModifiers();
    Check.isTrue("the class is public", Modifier.isPublic(modifiers));
    Check.isTrue("the class is final", Modifier.isFinal(modifiers));
    Check.isTrue("the class has no package", EntropyPool.class.getPackageName().isEmpty());
    Check.isTrue("the class extends Object alone", EntropyPool.class.getSuperclass() == Object.class);
    Check.due("interfaces", EntropyPool.class.getInterfaces().length, 0);
    Check.due("nested classes", EntropyPool.class.getDeclaredClasses().length, 0);
  }

  private static void constructorTakesNothing() {
    Constructor<?>[] constructors = EntropyPool.class.getDeclaredConstructors();
    Check.due("constructors", constructors.length, 1);
    Check.isTrue("the constructor is public", Modifier.isPublic(constructors[0].getModifiers()));
    Check.due("the constructor's parameters", constructors[0].getParameterCount(), 0);
  }

  private static void methodsAreTheDocuments() {
    Set<String> open = new TreeSet<>();
    for (Method method : EntropyPool.class.getDeclaredMethods()) {
      if (!Modifier.isPrivate(method.getModifiers())) {
        open.add(method.toString());
      }
    }
    Set<String> want = Set.of(
        "public int EntropyPool.mix(int)",
        "public int EntropyPool.credit(int)",
        "public long EntropyPool.extract(int)",
        "public int EntropyPool.available()");
    Check.isTrue("the methods are " + new TreeSet<>(want) + ", found " + open, open.equals(want));
  }

  private static void fieldsArePrivate() {
    for (Field field : EntropyPool.class.getDeclaredFields()) {
      Check.isTrue(field + " is private", Modifier.isPrivate(field.getModifiers()));
    }
  }
}
